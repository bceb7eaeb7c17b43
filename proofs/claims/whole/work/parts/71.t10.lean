section
/-! ONE TOKEN, THE REFERENCE's SIDE -/
variable {X : Nat × (Nat → Int32)} {d : Nat} {s σ : sm_S}
theorem m_isSmall (x : Int32) : sm_callM X true (d + 1) 187 [vI x] s = rI (bi (isSb x)) s := by
  rw [f_X13_isSmall, q_X13_isSmall_0]
  by_cases h1 : x < 97 <;> by_cases h2 : 122 < x <;> simp [isSb, h1, h2]
theorem m_isCapital (x : Int32) : sm_callM X true (d + 1) 188 [vI x] s = rI (bi (isCb x)) s := by
  rw [f_X13_isCapital, q_X13_isCapital_0]
  by_cases h1 : x < 65 <;> by_cases h2 : 90 < x <;> simp [isCb, h1, h2]
theorem m_isDigit (x : Int32) : sm_callM X true (d + 1) 189 [vI x] s = rI (bi (isDb x)) s := by
  rw [f_X13_isDigit, q_X13_isDigit_0]
  by_cases h1 : x < 48 <;> by_cases h2 : 57 < x <;> simp [isDb, h1, h2]
def mp (R : Nat → Int32) (e : Nat) (σ : sm_S) : Prop := (∀ j, σ.1 67 0 j = R j) ∧ σ.1 23 0 5 = Int32.ofNat e ∧ e ≤ 3000
theorem i_add {a b : Nat} : Int32.ofNat a + Int32.ofNat b = Int32.ofNat (a + b) := (Int32.ofNat_add a b).symm
theorem m_sign {R : Nat → Int32} {e k : Nat} (h : mp R e σ) (hk : k < 2 ^ 31) : sm_callM X true (d + 1) 190 [vP (23, 0), vI (Int32.ofNat k)] σ = rI (if k < e then R k &&& 255 else -1) σ := by
  obtain ⟨h1, h2, h3⟩ := h
  rw [f_X13_sign, q_X13_sign_0, h2]
  by_cases q : k < e
  · rw [if_pos ((i_lt hk (by omega)).mpr q), ix_nat (by omega) (by omega), if_pos q, h1]
  · rw [if_neg (fun z => q ((i_lt hk (by omega)).mp z)), if_neg q]
theorem sb_n {k e : Nat} {R : Nat → Int32} {p : Int32 → Bool} (hp : p (-1) = false) : (p (if k < e then R k &&& 255 else -1) = true) ↔ (k < e ∧ p (R k &&& 255) = true) := by
  by_cases q : k < e
  · rw [if_pos q]; simp [q]
  · rw [if_neg q, hp]; simp [q]
theorem rl_0 {p : Int32 → Bool} {R : Nat → Int32} {e f k : Nat} (h : ¬ (k < e ∧ p (R k &&& 255) = true)) : rl p R e f k = 0 := by
  cases f with
  | zero => rfl
  | succ f => rw [rl, if_neg h]
theorem rl_1 {p : Int32 → Bool} {R : Nat → Int32} {e f k : Nat} (h : k < e ∧ p (R k &&& 255) = true) : rl p R e (f + 1) k = rl p R e f (k + 1) + 1 := by
  rw [rl, if_pos h]
theorem rq_t {t i : Nat} {k : Nat → sm_R} : sm_rq (t, i) t k = k i := if_pos rfl
/-- what comes behind a name's last sign -/
noncomputable def m_EX (X : Nat × (Nat → Int32)) (d : Nat) (x1 : Int32) (p n : Nat) (v : Int64) (σ : sm_S) : sm_R :=
  if n < 9 then sm_bI (sm_callM X true (d + 6) 192 [vL v] σ) sm_tw fun y9 s10 => sm_go (sm_ZZ X) sm_PP true (sm_callM X true (d + 6)) 199 68 [vP (23, 0), vI x1, vI (Int32.ofNat p), vI (Int32.ofNat n), vL v, vU, vU] [vI y9] s10
  else sm_go (sm_ZZ X) sm_PP true (sm_callM X true (d + 6)) 199 68 [vP (23, 0), vI x1, vI (Int32.ofNat p), vI (Int32.ofNat n), vL v, vU, vU] [vI (-1)] σ
theorem m_name_5 {R : Nat → Int32} {e p : Nat} (x1 : Int32) (h : mp R e σ) (hp : p ≤ e) : ∀ (f n : Nat) (a : Int64) (d5 d6 : sm_V), p + n ≤ e → e ≤ p + n + f → sm_go (sm_ZZ X) sm_PP true (sm_callM X true (d + 6)) 199 5 [vP (23, 0), vI x1, vI (Int32.ofNat p), vI (Int32.ofNat n), vL a, d5, d6] [] σ = m_EX X d x1 p (n + rl isSD R e f (p + n)) (pk8 (seg R (p + n) (rl isSD R e f (p + n))) a) σ
  | f, n, a, d5, d6, hn, hf => by
    have he := h.2.2
    have go : (p + n < e ∧ isSD (R (p + n) &&& 255) = true) → sm_go (sm_ZZ X) sm_PP true (sm_callM X true (d + 6)) 199 31 [vP (23, 0), vI x1, vI (Int32.ofNat p), vI (Int32.ofNat n), vL a, vU, vU] [] σ = m_EX X d x1 p (n + rl isSD R e f (p + n)) (pk8 (seg R (p + n) (rl isSD R e f (p + n))) a) σ := fun hb => by
      obtain ⟨f, rfl⟩ : ∃ g, f = g + 1 := ⟨f - 1, by omega⟩
      rw [q_X13_name_31, i_add, m_sign h (by omega), bI_r, if_pos hb.1, i_s, m_name_5 x1 h hp f (n + 1) _ _ _ (by omega) (by omega)]
      have e1 := rl_1 (f := f) hb
      rw [show p + (n + 1) = p + n + 1 by omega, show n + 1 + rl isSD R e f (p + n + 1) = n + rl isSD R e (f + 1) (p + n) by rw [e1]; omega]
      have e2 : pk8 (seg R (p + n) (rl isSD R e (f + 1) (p + n))) a = pk8 (seg R (p + n + 1) (rl isSD R e f (p + n + 1))) ((a <<< ((8 : Int32).toInt64 &&& 63)) ||| (R (p + n) &&& 255).toInt64) := by
        rw [e1, seg, pk8]
      rw [← e2]
    rw [q_X13_name_5, i_add, m_sign h (by omega), bI_r, m_isSmall, bI_r]
    by_cases q1 : isSb (if p + n < e then R (p + n) &&& 255 else -1) = true
    · have q1' := (sb_n (by decide)).mp q1
      rw [if_neg (by rw [q1]; decide)]
      exact go ⟨q1'.1, by unfold isSD; rw [q1'.2]; rfl⟩
    · rw [if_pos (bi_0.mpr (by simpa using q1)), m_sign h (by omega), bI_r, m_isDigit, bI_r]
      by_cases q2 : isDb (if p + n < e then R (p + n) &&& 255 else -1) = true
      · have q2' := (sb_n (by decide)).mp q2
        rw [if_neg (by rw [q2]; decide)]
        exact go ⟨q2'.1, by unfold isSD; rw [q2'.2, Bool.or_true]⟩
      · have hz : rl isSD R e f (p + n) = 0 := rl_0 (fun z => by
          have z2 : (isSb (R (p + n) &&& 255) || isDb (R (p + n) &&& 255)) = true := z.2
          rw [Bool.or_eq_true] at z2
          exact z2.elim (fun w => q1 ((sb_n (by decide)).mpr ⟨z.1, w⟩)) (fun w => q2 ((sb_n (by decide)).mpr ⟨z.1, w⟩)))
        rw [if_pos (bi_0.mpr (by simpa using q2)), hz]
        show _ = m_EX X d x1 p n a σ
        unfold m_EX
        by_cases q3 : n < 9
        · rw [if_pos q3, if_pos (by rw [show (9 : Int32) = Int32.ofNat 9 from rfl, i_lt (by omega) (by omega)]; exact q3)]
        · rw [if_neg q3, if_neg (by rw [show (9 : Int32) = Int32.ofNat 9 from rfl, i_lt (by omega) (by omega)]; exact q3)]
/-- the state behind a token -/
def mN (σ : sm_S) (i p : Nat) (kd : Int32) (v : Int64) : sm_S := sI (sL (sI σ 69 0 i (Int32.ofNat p)) 70 0 i v) 68 0 i kd
theorem mN_a {i p : Nat} {v v' : Int64} {kd : Int32} : sL (sI (sL (sI σ 69 0 i (Int32.ofNat p)) 70 0 i v) 68 0 i kd) 70 0 i v' = mN σ i p kd v' := by
  show sI (sL (sL (sI σ 69 0 i (Int32.ofNat p)) 70 0 i v) 70 0 i v') 68 0 i kd = _
  rw [sL_sL]; rfl
theorem mp_L {R : Nat → Int32} {e i p : Nat} {v : Int64} (h : mp R e σ) : mp R e (sL (sI σ 69 0 i (Int32.ofNat p)) 70 0 i v) := by
  obtain ⟨h1, h2, h3⟩ := h
  refine ⟨fun j => ?_, ?_, h3⟩
  · rw [gLI, gI, if_neg (by omega)]; exact h1 j
  · rw [gLI, gI, if_neg (by omega)]; exact h2
theorem m_name {R : Nat → Int32} {e p i : Nat} (h : mp R e σ) (hp : p ≤ e) (hi : i < 803) : ∃ v, sm_callM X true (d + 7) 199 [vP (23, 0), vI (Int32.ofNat i), vI (Int32.ofNat p)] (sL (sI σ 69 0 i (Int32.ofNat p)) 70 0 i 0) =
      rI (Int32.ofNat (rl isSD R e (e - p) p)) (mN σ i p (if 8 < rl isSD R e (e - p) p then 6 else if whr (seg R p (rl isSD R e (e - p) p)) sm_words 0 = -1 then 1 else 5) v) ∧
      (¬ 8 < rl isSD R e (e - p) p → v = if whr (seg R p (rl isSD R e (e - p) p)) sm_words 0 = -1 then pk8 (seg R p (rl isSD R e (e - p) p)) 0 else (whr (seg R p (rl isSD R e (e - p) p)) sm_words 0).toInt64) := by
  have he := h.2.2
  have hm := rl_le isSD R e (e - p) p hp
  rw [f_X13_name, q_X13_name_0]
  have e0 := m_name_5 (X := X) (d := d) (Int32.ofNat i) (mp_L (i := i) (p := p) (v := 0) h) hp (e - p) 0 0 vU vU (by omega) (by omega)
  simp only [Nat.add_zero, Nat.zero_add] at e0
  have e0 : sm_go (sm_ZZ X) sm_PP true (sm_callM X true (d + 6)) 199 5 [vP (23, 0), vI (Int32.ofNat i), vI (Int32.ofNat p), vI 0, vL 0, vU, vU] [] (sL (sI σ 69 0 i (Int32.ofNat p)) 70 0 i 0) = m_EX X d (Int32.ofNat i) p (rl isSD R e (e - p) p) (pk8 (seg R p (rl isSD R e (e - p) p)) 0) (sL (sI σ 69 0 i (Int32.ofNat p)) 70 0 i 0) := e0
  rw [e0]
  unfold m_EX
  have t97 : ∀ (y kd : Int32), sm_go (sm_ZZ X) sm_PP true (sm_callM X true (d + 6)) 199 97 [vP (23, 0), vI (Int32.ofNat i), vU, vI (Int32.ofNat (rl isSD R e (e - p) p)), vL (pk8 (seg R p (rl isSD R e (e - p) p)) 0), vU, vI y] [vI kd, vI (Int32.ofNat i), vP (68, 0)] (sL (sI σ 69 0 i (Int32.ofNat p)) 70 0 i 0) = rI (Int32.ofNat (rl isSD R e (e - p) p)) (mN σ i p kd (if y = -1 then pk8 (seg R p (rl isSD R e (e - p) p)) 0 else y.toInt64)) := fun y kd => by
    rw [q_X13_name_97]
    rw [rq_t, ix_nat hi (by decide), ix_nat hi (by decide), ix_nat hi (by decide)]
    by_cases q : y = -1
    · rw [if_pos q, if_pos q, mN_a]
    · rw [if_neg q, if_neg q, mN_a]
  have t68 : ∀ y : Int32, sm_go (sm_ZZ X) sm_PP true (sm_callM X true (d + 6)) 199 68 [vP (23, 0), vI (Int32.ofNat i), vI (Int32.ofNat p), vI (Int32.ofNat (rl isSD R e (e - p) p)), vL (pk8 (seg R p (rl isSD R e (e - p) p)) 0), vU, vU] [vI y] (sL (sI σ 69 0 i (Int32.ofNat p)) 70 0 i 0) = rI (Int32.ofNat (rl isSD R e (e - p) p)) (mN σ i p (if 8 < rl isSD R e (e - p) p then 6 else if y = -1 then 1 else 5) (if y = -1 then pk8 (seg R p (rl isSD R e (e - p) p)) 0 else y.toInt64)) := fun y => by
    rw [q_X13_name_68]
    by_cases q : 8 < rl isSD R e (e - p) p
    · rw [if_pos q, if_pos (by rw [show (8 : Int32) = Int32.ofNat 8 from rfl, i_lt (by omega) (by omega)]; exact q), t97]
    · rw [if_neg q, if_neg (by rw [show (8 : Int32) = Int32.ofNat 8 from rfl, i_lt (by omega) (by omega)]; exact q)]
      by_cases q1 : y = -1
      · rw [if_pos q1, if_pos q1, t97, if_pos q1]
      · rw [if_neg q1, if_neg q1, t97, if_neg q1]
  by_cases q : 8 < rl isSD R e (e - p) p
  · rw [if_neg (by omega), t68, if_pos q]
    exact ⟨_, by rw [if_pos q], fun z => absurd q z⟩
  · rw [if_pos (by omega), m_wordOf (nm_SD q), bI_r, t68, if_neg q]
    exact ⟨_, rfl, fun _ => rfl⟩
end
