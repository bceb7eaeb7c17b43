section
/-! TOKENS, THE CLASS's SIDE -/
variable {X : Nat × (Nat → Int32)} {d : Nat} {s σ : sm_S}
theorem sI_sI {σ : sm_S} {t i k : Nat} {v w : Int32} : sI (sI σ t i k v) t i k w = sI σ t i k w := by
  refine Prod.ext (funext fun t' => funext fun i' => funext fun k' => ?_) rfl
  show (if t' = t ∧ i' = i ∧ k' = k then w else if t' = t ∧ i' = i ∧ k' = k then v else σ.1 t' i' k') = (if t' = t ∧ i' = i ∧ k' = k then w else σ.1 t' i' k')
  split <;> rfl
theorem sI_self {σ : sm_S} {t i k : Nat} {v : Int32} (h : σ.1 t i k = v) : sI σ t i k v = σ := by
  refine Prod.ext (funext fun t' => funext fun i' => funext fun k' => ?_) rfl
  show (if t' = t ∧ i' = i ∧ k' = k then v else σ.1 t' i' k') = σ.1 t' i' k'
  split
  · next q => obtain ⟨rfl, rfl, rfl⟩ := q; exact h.symm
  · rfl
def isSb (x : Int32) : Bool := !(decide (x < 97)) && !(decide (122 < x))
def isCb (x : Int32) : Bool := !(decide (x < 65)) && !(decide (90 < x))
def isDb (x : Int32) : Bool := !(decide (x < 48)) && !(decide (57 < x))
def isBl (x : Int32) : Bool := decide (x = 32) || decide (x = 10)
def isSD (x : Int32) : Bool := isSb x || isDb x
abbrev bi (b : Bool) : Int32 := bif b then 1 else 0
theorem c_isSmall (x : Int32) : sm_callM X true (d + 1) 135 [vI x] s = rI (bi (isSb x)) s := by
  rw [f_X7_isSmall, q_X7_isSmall_0]
  by_cases h1 : x < 97 <;> by_cases h2 : 122 < x <;> simp [isSb, h1, h2]
theorem c_isCapital (x : Int32) : sm_callM X true (d + 1) 136 [vI x] s = rI (bi (isCb x)) s := by
  rw [f_X7_isCapital, q_X7_isCapital_0]
  by_cases h1 : x < 65 <;> by_cases h2 : 90 < x <;> simp [isCb, h1, h2]
theorem c_isDigit (x : Int32) : sm_callM X true (d + 1) 137 [vI x] s = rI (bi (isDb x)) s := by
  rw [f_X7_isDigit, q_X7_isDigit_0]
  by_cases h1 : x < 48 <;> by_cases h2 : 57 < x <;> simp [isDb, h1, h2]
/-- bytes R, e of them; how long a run of signs of a kind is -/
def rl (p : Int32 → Bool) (R : Nat → Int32) (e : Nat) : Nat → Nat → Nat
  | 0, _ => 0
  | f + 1, k => if k < e ∧ p (R k &&& 255) = true then rl p R e f (k + 1) + 1 else 0
def seg (R : Nat → Int32) : Nat → Nat → List Int32
  | _, 0 => []
  | k, m + 1 => (R k &&& 255) :: seg R (k + 1) m
/-- the tape as it is cut: bytes, end, where it is looked at -/
def tp (R : Nat → Int32) (e k : Nat) (σ : sm_S) : Prop := (∀ j, σ.1 52 0 j = R j) ∧ σ.1 17 0 2 = Int32.ofNat e ∧ σ.1 17 0 3 = Int32.ofNat k ∧ e ≤ 3000 ∧ k ≤ e
theorem tp_at {R : Nat → Int32} {e k j : Nat} (h : tp R e k σ) (hj : j ≤ e) : tp R e j (sI σ 17 0 3 (Int32.ofNat j)) := by
  obtain ⟨h1, h2, h3, h4, h5⟩ := h
  refine ⟨fun j => ?_, ?_, ?_, h4, hj⟩
  · rw [gI, if_neg (by simp)]; exact h1 j
  · rw [gI, if_neg (by simp)]; exact h2
  · rw [gI, if_pos ⟨rfl, rfl, rfl⟩]
theorem c_sign {R : Nat → Int32} {e k : Nat} (h : tp R e k σ) : sm_callM X true (d + 1) 138 [vP (17, 0)] σ = rI (if k < e then R k &&& 255 else 0) σ := by
  obtain ⟨h1, h2, h3, h4, h5⟩ := h
  rw [f_X7_sign, q_X7_sign_0, h2, h3, if_neg (i_nn (by omega))]
  by_cases q : k < e
  · rw [if_pos ((i_lt (by omega) (by omega)).mpr q), ix_nat (by omega) (by omega), if_pos q, h1]
  · rw [if_neg (fun z => q ((i_lt (by omega) (by omega)).mp z)), if_neg q]
theorem bi_0 {b : Bool} : (bi b = 0) ↔ b = false := by cases b <;> decide
/-- blanks are gone by -/
theorem c_skip {R : Nat → Int32} {e : Nat} (x1 : Int32) : ∀ (f k : Nat) (σ : sm_S), tp R e k σ → e ≤ k + f → sm_go (sm_ZZ X) sm_PP true (sm_callM X true (d + 1)) 139 0 [vP (17, 0), vI x1] [] σ = sm_go (sm_ZZ X) sm_PP true (sm_callM X true (d + 1)) 139 42 [vP (17, 0), vI x1] [] (sI σ 17 0 3 (Int32.ofNat (k + rl isBl R e f k)))
  | f, k, σ, h, hf => by
    have h0 := h
    obtain ⟨h1, h2, h3, h4, h5⟩ := h
    have stop : rl isBl R e f k = 0 → sm_go (sm_ZZ X) sm_PP true (sm_callM X true (d + 1)) 139 42 [vP (17, 0), vI x1] [] σ = sm_go (sm_ZZ X) sm_PP true (sm_callM X true (d + 1)) 139 42 [vP (17, 0), vI x1] [] (sI σ 17 0 3 (Int32.ofNat (k + rl isBl R e f k))) := fun q => by
      rw [q, show sI σ 17 0 3 (Int32.ofNat (k + 0)) = σ from sI_self h3]
    rw [q_X7_cutToken_0]
    by_cases q : k < e
    · rw [h2, h3, if_pos ((i_lt (by omega) (by omega)).mpr q), c_sign h0, bI_r, if_pos q]
      obtain ⟨f, rfl⟩ : ∃ g, f = g + 1 := ⟨f - 1, by omega⟩
      have go : isBl (R k &&& 255) = true → sm_go (sm_ZZ X) sm_PP true (sm_callM X true (d + 1)) 139 0 [vP (17, 0), vI x1] [] (sI σ 17 0 3 (σ.1 17 0 3 + 1)) = sm_go (sm_ZZ X) sm_PP true (sm_callM X true (d + 1)) 139 42 [vP (17, 0), vI x1] [] (sI σ 17 0 3 (Int32.ofNat (k + rl isBl R e (f + 1) k))) := fun hb => by
        rw [h3, i_s, c_skip x1 f (k + 1) _ (tp_at h0 (by omega)) (by omega), sI_sI, show rl isBl R e (f + 1) k = rl isBl R e f (k + 1) + 1 by rw [rl, if_pos ⟨q, hb⟩], show k + (rl isBl R e f (k + 1) + 1) = k + 1 + rl isBl R e f (k + 1) by omega]
      by_cases q1 : R k &&& 255 = 32
      · rw [if_pos q1]
        exact go (by simp [isBl, q1])
      · rw [if_neg q1, c_sign h0, bI_r, if_pos q]
        by_cases q2 : R k &&& 255 = 10
        · rw [if_pos q2]
          exact go (by simp [isBl, q2])
        · rw [if_neg q2]
          refine stop ?_
          rw [rl, if_neg (by simp [isBl, q1, q2])]
    · rw [h2, h3, if_neg (fun z => q ((i_lt (by omega) (by omega)).mp z))]
      refine stop ?_
      cases f with
      | zero => rfl
      | succ f => rw [rl, if_neg (fun z => q z.1)]
/-- a name is read -/
theorem c_small_7 {R : Nat → Int32} {e : Nat} (x1 x2 : Int32) : ∀ (f k : Nat) (a : Int64) (d4 d5 : sm_V) (σ : sm_S), tp R e k σ → e ≤ k + f → sm_go (sm_ZZ X) sm_PP true (sm_callM X true (d + 1)) 140 7 [vP (17, 0), vI x1, vI x2, vL a, d4, d5] [] σ = sm_go (sm_ZZ X) sm_PP true (sm_callM X true (d + 1)) 140 60 [vP (17, 0), vI x1, vI x2, vL (pk7 (seg R k (rl isSD R e f k)) a), vU, vU] [] (sI σ 17 0 3 (Int32.ofNat (k + rl isSD R e f k)))
  | f, k, a, d4, d5, σ, h, hf => by
    have h0 := h
    obtain ⟨h1, h2, h3, h4, h5⟩ := h
    have stop : rl isSD R e f k = 0 → sm_go (sm_ZZ X) sm_PP true (sm_callM X true (d + 1)) 140 60 [vP (17, 0), vI x1, vI x2, vL a, vU, vU] [] σ = sm_go (sm_ZZ X) sm_PP true (sm_callM X true (d + 1)) 140 60 [vP (17, 0), vI x1, vI x2, vL (pk7 (seg R k (rl isSD R e f k)) a), vU, vU] [] (sI σ 17 0 3 (Int32.ofNat (k + rl isSD R e f k))) := fun q => by
      rw [q, show sI σ 17 0 3 (Int32.ofNat (k + 0)) = σ from sI_self h3]; rfl
    rw [q_X7_cutSmall_7]
    by_cases q : k < e
    · rw [h2, h3, if_pos ((i_lt (by omega) (by omega)).mpr q), c_sign h0, bI_r, if_pos q, c_isSmall, bI_r]
      obtain ⟨f, rfl⟩ : ∃ g, f = g + 1 := ⟨f - 1, by omega⟩
      have go : isSD (R k &&& 255) = true → sm_go (sm_ZZ X) sm_PP true (sm_callM X true (d + 1)) 140 38 [vP (17, 0), vI x1, vI x2, vL a, vU, vU] [] σ = sm_go (sm_ZZ X) sm_PP true (sm_callM X true (d + 1)) 140 60 [vP (17, 0), vI x1, vI x2, vL (pk7 (seg R k (rl isSD R e (f + 1) k)) a), vU, vU] [] (sI σ 17 0 3 (Int32.ofNat (k + rl isSD R e (f + 1) k))) := fun hb => by
        rw [q_X7_cutSmall_38, c_sign h0, bI_r, if_pos q, sm_callM_eq (k := 134) (L := [vL a, vU, vI (R k &&& 255)]) (by decide) (Nat.le_of_ble_eq_true rfl) rfl, q_X7_withSign_0, bL_r, h3, i_s, c_small_7 x1 x2 f (k + 1) _ _ _ _ (tp_at h0 (by omega)) (by omega), sI_sI, show rl isSD R e (f + 1) k = rl isSD R e f (k + 1) + 1 by rw [rl, if_pos ⟨q, hb⟩], seg, pk7, show k + (rl isSD R e f (k + 1) + 1) = k + 1 + rl isSD R e f (k + 1) by omega]
      by_cases q1 : isSb (R k &&& 255) = true
      · rw [if_neg (by rw [q1]; decide)]
        exact go (by simp [isSD, q1])
      · rw [if_pos (bi_0.mpr (by simpa using q1)), c_sign h0, bI_r, if_pos q, c_isDigit, bI_r]
        by_cases q2 : isDb (R k &&& 255) = true
        · rw [if_neg (by rw [q2]; decide)]
          exact go (by simp [isSD, q2])
        · rw [if_pos (bi_0.mpr (by simpa using q2))]
          refine stop ?_
          rw [rl, if_neg (by simp [isSD, q1, q2])]
    · rw [h2, h3, if_neg (fun z => q ((i_lt (by omega) (by omega)).mp z))]
      refine stop ?_
      cases f with
      | zero => rfl
      | succ f => rw [rl, if_neg (fun z => q z.1)]
theorem c_cap_7 {R : Nat → Int32} {e : Nat} (x1 x2 : Int32) : ∀ (f k : Nat) (a : Int64) (d4 d5 : sm_V) (σ : sm_S), tp R e k σ → e ≤ k + f → sm_go (sm_ZZ X) sm_PP true (sm_callM X true (d + 1)) 141 7 [vP (17, 0), vI x1, vI x2, vL a, d4, d5] [] σ = sm_go (sm_ZZ X) sm_PP true (sm_callM X true (d + 1)) 141 50 [vP (17, 0), vI x1, vI x2, vL (pk7 (seg R k (rl isCb R e f k)) a), vU, vU] [] (sI σ 17 0 3 (Int32.ofNat (k + rl isCb R e f k)))
  | f, k, a, d4, d5, σ, h, hf => by
    have h0 := h
    obtain ⟨h1, h2, h3, h4, h5⟩ := h
    have stop : rl isCb R e f k = 0 → sm_go (sm_ZZ X) sm_PP true (sm_callM X true (d + 1)) 141 50 [vP (17, 0), vI x1, vI x2, vL a, vU, vU] [] σ = sm_go (sm_ZZ X) sm_PP true (sm_callM X true (d + 1)) 141 50 [vP (17, 0), vI x1, vI x2, vL (pk7 (seg R k (rl isCb R e f k)) a), vU, vU] [] (sI σ 17 0 3 (Int32.ofNat (k + rl isCb R e f k))) := fun q => by
      rw [q, show sI σ 17 0 3 (Int32.ofNat (k + 0)) = σ from sI_self h3]; rfl
    rw [q_X7_cutCapitals_7]
    by_cases q : k < e
    · rw [h2, h3, if_pos ((i_lt (by omega) (by omega)).mpr q), c_sign h0, bI_r, if_pos q, c_isCapital, bI_r]
      obtain ⟨f, rfl⟩ : ∃ g, f = g + 1 := ⟨f - 1, by omega⟩
      by_cases q1 : isCb (R k &&& 255) = true
      · rw [if_neg (by rw [q1]; decide), c_sign h0, bI_r, if_pos q, sm_callM_eq (k := 134) (L := [vL a, vU, vI (R k &&& 255)]) (by decide) (Nat.le_of_ble_eq_true rfl) rfl, q_X7_withSign_0, bL_r, h3, i_s, c_cap_7 x1 x2 f (k + 1) _ _ _ _ (tp_at h0 (by omega)) (by omega), sI_sI, show rl isCb R e (f + 1) k = rl isCb R e f (k + 1) + 1 by rw [rl, if_pos ⟨q, q1⟩], seg, pk7, show k + (rl isCb R e f (k + 1) + 1) = k + 1 + rl isCb R e f (k + 1) by omega]
      · rw [if_pos (bi_0.mpr (by simpa using q1))]
        refine stop ?_
        rw [rl, if_neg (by simp [q1])]
    · rw [h2, h3, if_neg (fun z => q ((i_lt (by omega) (by omega)).mp z))]
      refine stop ?_
      cases f with
      | zero => rfl
      | succ f => rw [rl, if_neg (fun z => q z.1)]
/-- digits as a number -/
def dg : List Int32 → Int64 → Int64
  | [], a => a
  | c :: r, a => dg r (a * 10 + (c - 48).toInt64)
theorem c_num_7 {R : Nat → Int32} {e : Nat} (x1 x2 : Int32) : ∀ (f k : Nat) (a : Int64) (d4 d5 : sm_V) (σ : sm_S), tp R e k σ → e ≤ k + f → sm_go (sm_ZZ X) sm_PP true (sm_callM X true (d + 1)) 142 7 [vP (17, 0), vI x1, vI x2, vL a, d4, d5] [] σ = sm_go (sm_ZZ X) sm_PP true (sm_callM X true (d + 1)) 142 56 [vP (17, 0), vI x1, vI x2, vL (dg (seg R k (rl isDb R e f k)) a), vU, vU] [] (sI σ 17 0 3 (Int32.ofNat (k + rl isDb R e f k)))
  | f, k, a, d4, d5, σ, h, hf => by
    have h0 := h
    obtain ⟨h1, h2, h3, h4, h5⟩ := h
    have stop : rl isDb R e f k = 0 → sm_go (sm_ZZ X) sm_PP true (sm_callM X true (d + 1)) 142 56 [vP (17, 0), vI x1, vI x2, vL a, vU, vU] [] σ = sm_go (sm_ZZ X) sm_PP true (sm_callM X true (d + 1)) 142 56 [vP (17, 0), vI x1, vI x2, vL (dg (seg R k (rl isDb R e f k)) a), vU, vU] [] (sI σ 17 0 3 (Int32.ofNat (k + rl isDb R e f k))) := fun q => by
      rw [q, show sI σ 17 0 3 (Int32.ofNat (k + 0)) = σ from sI_self h3]; rfl
    rw [q_X7_cutNumber_7]
    by_cases q : k < e
    · rw [h2, h3, if_pos ((i_lt (by omega) (by omega)).mpr q), c_sign h0, bI_r, if_pos q, c_isDigit, bI_r]
      obtain ⟨f, rfl⟩ : ∃ g, f = g + 1 := ⟨f - 1, by omega⟩
      by_cases q1 : isDb (R k &&& 255) = true
      · rw [if_neg (by rw [q1]; decide), c_sign h0, bI_r, if_pos q, h3, i_s, c_num_7 x1 x2 f (k + 1) _ _ _ _ (tp_at h0 (by omega)) (by omega), sI_sI, show rl isDb R e (f + 1) k = rl isDb R e f (k + 1) + 1 by rw [rl, if_pos ⟨q, q1⟩], seg, dg, show k + (rl isDb R e f (k + 1) + 1) = k + 1 + rl isDb R e f (k + 1) by omega]
      · rw [if_pos (bi_0.mpr (by simpa using q1))]
        refine stop ?_
        rw [rl, if_neg (by simp [q1])]
    · rw [h2, h3, if_neg (fun z => q ((i_lt (by omega) (by omega)).mp z))]
      refine stop ?_
      cases f with
      | zero => rfl
      | succ f => rw [rl, if_neg (fun z => q z.1)]
end
