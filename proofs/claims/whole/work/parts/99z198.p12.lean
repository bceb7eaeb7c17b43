section
/-! BOTH SIDES STAND WHERE THE PURE STATE STANDS -/
variable {X : Nat × (Nat → Int32)} {d k : Nat} {As : List sm_V} {o : sm_O} {s t σ σ' : sm_S} {B : Nat × Nat} {ci cj mi mj : Nat}
/-- bytes, how many; the text; the yards; what is told; the fault and its place -/
abbrev zPu : Type := (Nat → Int32) × Nat × zTx × zW × Option (Nat → Int32) × Int32 × Int32
def CI8 (p : zPu) (B : Nat × Nat) (ci cj : Nat) (σ : sm_S) : Prop := CRd p.2.2.1 ci cj σ ∧ CW p.2.2.2.1 B σ ∧ CTo p.2.2.2.2.1 σ ∧ σ.1 17 0 1 = Int32.ofNat p.2.1 ∧ (∀ j, σ.1 52 0 j = p.1 j) ∧ σ.1 15 0 11 = p.2.2.2.2.2.1 ∧ σ.1 15 0 12 = p.2.2.2.2.2.2
def MI8 (p : zPu) (mi mj : Nat) (σ : sm_S) : Prop := MRd p.2.2.1 mi mj σ ∧ MW p.2.2.2.1 σ ∧ MTo p.2.2.2.2.1 σ ∧ σ.1 23 0 1 = Int32.ofNat p.2.1 ∧ (∀ j, σ.1 67 0 j = p.1 j) ∧ σ.1 23 0 9 = p.2.2.2.2.2.1 ∧ σ.1 23 0 10 = p.2.2.2.2.2.2
def PI8 (p : zPu) : Prop := WW p.2.2.2.1 ∧ WTx p.2.2.1 ∧ b8 p.1 ∧ p.2.1 ≤ 3000
/-! what each side writes -/
def isM (t : Nat) : Bool := t == 22 || t == 23 || (Nat.ble 58 t && Nat.ble t 96)
def gc_M (k : Nat) : Bool := Nat.ble k 179 || Nat.ble 294 k
def gc_A : sm_A := fun _ t _ => !(isM t)
theorem gc_ok : (List.range 308).all (fun k => !(gc_M k) || (sm_cd k).all (sm_ckA true gc_A gc_M)) = true := by decide +kernel
theorem gc_fr (hk : gc_M k = true) (h : sm_callM X true d k As σ = some (o, t)) : sm_fr gc_A σ t := by
  refine sm_callM_fr (fun k hk hM => ?_) d k As σ o t hk h
  have := List.all_eq_true.mp gc_ok k (List.mem_range.mpr hk)
  rw [hM] at this
  exact this
def gm_M (k : Nat) : Bool := Nat.ble 181 k && !(k == 277)
def gm_A : sm_A := fun q t _ => match q with
  | 0 => isM t
  | 1 => isM t
  | 2 => isM t
  | _ => false
theorem gm_ok : (List.range 308).all (fun k => !(gm_M k) || (sm_cd k).all (sm_ckA true gm_A gm_M)) = true := by decide +kernel
theorem gm_fr (hk : gm_M k = true) (h : sm_callM X true d k As σ = some (o, t)) : sm_fr gm_A σ t := by
  refine sm_callM_fr (fun k hk hM => ?_) d k As σ o t hk h
  have := List.all_eq_true.mp gm_ok k (List.mem_range.mpr hk)
  rw [hM] at this
  exact this
/-- the class's machine and yards write nothing of the texts, the reader, the tape -/
def rc_M (k : Nat) : Bool := k == 2 || ((Nat.ble 3 k && Nat.ble k 4) || ((Nat.ble 8 k && Nat.ble k 12) || ((Nat.ble 18 k && Nat.ble k 29) || ((Nat.ble 31 k && Nat.ble k 40) || ((Nat.ble 42 k && Nat.ble k 71) || ((Nat.ble 120 k && Nat.ble k 128) || ((Nat.ble 144 k && Nat.ble k 155) || ((Nat.ble 157 k && Nat.ble k 165) || (k == 170 || (k == 173 || (k == 174 || Nat.ble 294 k)))))))))))
def rc_A : sm_A := fun _ t _ => !(t == 10 || t == 14 || t == 15 || t == 17 || t == 21 || (Nat.ble 30 t && Nat.ble t 38) || (Nat.ble 47 t && Nat.ble t 50) || (Nat.ble 52 t && Nat.ble t 55))
theorem rc_ok : (List.range 308).all (fun k => !(rc_M k) || (sm_cd k).all (sm_ckA true rc_A rc_M)) = true := by decide +kernel
theorem rc_fr (hk : rc_M k = true) (h : sm_callM X true d k As σ = some (o, t)) : sm_fr rc_A σ t := by
  refine sm_callM_fr (fun k hk hM => ?_) d k As σ o t hk h
  have := List.all_eq_true.mp rc_ok k (List.mem_range.mpr hk)
  rw [hM] at this
  exact this
/-- the class's yards leave the machine alone too -/
def ry_M (k : Nat) : Bool := (Nat.ble 23 k && Nat.ble k 29) || ((Nat.ble 31 k && Nat.ble k 40) || ((Nat.ble 120 k && Nat.ble k 128) || ((Nat.ble 144 k && Nat.ble k 155) || ((Nat.ble 157 k && Nat.ble k 165) || (k == 173 || (k == 174 || Nat.ble 294 k))))))
def ry_A : sm_A := fun _ t _ => !(t == 10 || t == 13 || t == 14 || t == 15 || t == 17 || t == 21 || (Nat.ble 30 t && Nat.ble t 38) || (Nat.ble 42 t && Nat.ble t 50) || (Nat.ble 52 t && Nat.ble t 55))
theorem ry_ok : (List.range 308).all (fun k => !(ry_M k) || (sm_cd k).all (sm_ckA true ry_A ry_M)) = true := by decide +kernel
theorem ry_fr (hk : ry_M k = true) (h : sm_callM X true d k As σ = some (o, t)) : sm_fr ry_A σ t := by
  refine sm_callM_fr (fun k hk hM => ?_) d k As σ o t hk h
  have := List.all_eq_true.mp ry_ok k (List.mem_range.mpr hk)
  rw [hM] at this
  exact this
def fd_M (k : Nat) : Bool := k == 130 || (k == 131 || (k == 167 || Nat.ble 294 k))
def fd_A : sm_A := fun q t k => match q with
  | 0 => (t == 17 && k == 1) || t == 52
  | _ => false
theorem fd_ok : (List.range 308).all (fun k => !(fd_M k) || (sm_cd k).all (sm_ckA true fd_A fd_M)) = true := by decide +kernel
theorem fd_fr (hk : fd_M k = true) (h : sm_callM X true d k As σ = some (o, t)) : sm_fr fd_A σ t := by
  refine sm_callM_fr (fun k hk hM => ?_) d k As σ o t hk h
  have := List.all_eq_true.mp fd_ok k (List.mem_range.mpr hk)
  rw [hM] at this
  exact this
def fm_M (k : Nat) : Bool := k == 278 || (k == 279 || Nat.ble 294 k)
def fm_A : sm_A := fun q t k => match q with
  | 0 => (t == 23 && k == 1) || t == 67
  | _ => false
theorem fm_ok : (List.range 308).all (fun k => !(fm_M k) || (sm_cd k).all (sm_ckA true fm_A fm_M)) = true := by decide +kernel
theorem fm_fr (hk : fm_M k = true) (h : sm_callM X true d k As σ = some (o, t)) : sm_fr fm_A σ t := by
  refine sm_callM_fr (fun k hk hM => ?_) d k As σ o t hk h
  have := List.all_eq_true.mp fm_ok k (List.mem_range.mpr hk)
  rw [hM] at this
  exact this
/-- the reference's machine and yards -/
def rm_M (k : Nat) : Bool := (Nat.ble 181 k && Nat.ble k 186) || ((Nat.ble 246 k && Nat.ble k 276) || (k == 282 || (k == 283 || (k == 286 || (k == 287 || Nat.ble 294 k)))))
def rm_A : sm_A := fun q t k => match q with
  | 0 => (t == 23 && Nat.ble 24 k) || (Nat.ble 74 t && Nat.ble t 96)
  | _ => false
theorem rm_ok : (List.range 308).all (fun k => !(rm_M k) || (sm_cd k).all (sm_ckA true rm_A rm_M)) = true := by decide +kernel
theorem rm_fr (hk : rm_M k = true) (h : sm_callM X true d k As σ = some (o, t)) : sm_fr rm_A σ t := by
  refine sm_callM_fr (fun k hk hM => ?_) d k As σ o t hk h
  have := List.all_eq_true.mp rm_ok k (List.mem_range.mpr hk)
  rw [hM] at this
  exact this
def rn_M (k : Nat) : Bool := (Nat.ble 181 k && Nat.ble k 186) || ((Nat.ble 246 k && Nat.ble k 252) || (k == 268 || (k == 269 || ((Nat.ble 271 k && Nat.ble k 276) || (k == 286 || (k == 287 || Nat.ble 294 k))))))
def rn_A : sm_A := fun q t k => match q with
  | 0 => (t == 23 && (k == 60 || k == 61)) || (Nat.ble 74 t && Nat.ble t 96)
  | _ => false
theorem rn_ok : (List.range 308).all (fun k => !(rn_M k) || (sm_cd k).all (sm_ckA true rn_A rn_M)) = true := by decide +kernel
theorem rn_fr (hk : rn_M k = true) (h : sm_callM X true d k As σ = some (o, t)) : sm_fr rn_A σ t := by
  refine sm_callM_fr (fun k hk hM => ?_) d k As σ o t hk h
  have := List.all_eq_true.mp rn_ok k (List.mem_range.mpr hk)
  rw [hM] at this
  exact this
/-! parts of the views -/
theorem CRd_s {x : zTx} (hs : ∀ t c k, (t = 10 ∨ (30 ≤ t ∧ t ≤ 38) ∨ t = 14 ∨ t = 49) → σ'.1 t c k = σ.1 t c k) (h5 : σ'.2.2.1 21 0 5 = σ.2.2.1 21 0 5) (h6 : σ'.2.2.1 21 0 6 = σ.2.2.1 21 0 6) (h : CRd x ci cj σ) : CRd x ci cj σ' := by
  obtain ⟨g1, g2, g3, g4, g5, ⟨n1, n2, n3⟩, g7, g8, g9⟩ := h
  have hF : ∀ c, F5 c σ → F5 c σ' := fun c hf i hi => by
    obtain ⟨f1, f2, f3⟩ := hf i hi
    exact ⟨by rw [hs _ _ _ (by omega)]; exact f1, by rw [hs _ _ _ (by omega)]; exact f2, fun j t hj => by rw [hs _ _ _ (by omega)]; exact f3 j t hj⟩
  have hP : ∀ c, P4 c σ → P4 c σ' := fun c hf p hp => by rw [hs _ _ _ (by omega)]; exact hf p hp
  exact ⟨CTx_s (σ := σ) (fun t k ht => hs t cj k (by omega)) g1, hF _ g2, hF _ g3, hP _ g4, hP _ g5, ⟨by rw [hs _ _ _ (by omega)]; exact n1, by rw [hs _ _ _ (by omega)]; exact n2, fun i hi => by rw [hs _ _ _ (by omega)]; exact n3 i hi⟩, h5.trans g7, h6.trans g8, g9⟩
theorem MRd_s {x : zTx} (hs : ∀ t c k, (t = 22 ∨ (59 ≤ t ∧ t ≤ 66)) → σ'.1 t c k = σ.1 t c k) (h6 : σ'.2.2.1 23 0 6 = σ.2.2.1 23 0 6) (h7 : σ'.2.2.1 23 0 7 = σ.2.2.1 23 0 7) (h : MRd x mi mj σ) : MRd x mi mj σ' :=
  ⟨MTx_s (σ := σ) (fun t k ht => hs t mj k ht) h.1, h6.trans h.2.1, h7.trans h.2.2.1, h.2.2.2⟩
theorem CTo_s {T : Option (Nat → Int32)} (h6 : σ'.1 13 0 6 = σ.1 13 0 6) (h45 : ∀ k, σ'.1 45 0 k = σ.1 45 0 k) (h : CTo T σ) : CTo T σ' := by
  cases T with
  | none => exact h6.trans h
  | some T => exact ⟨h6.trans h.1, fun k hk => (h45 k).trans (h.2 k hk)⟩
theorem MTo_s {T : Option (Nat → Int32)} (hs : ∀ k, 49 ≤ k ∧ k ≤ 56 → σ'.1 23 0 k = σ.1 23 0 k) (h : MTo T σ) : MTo T σ' := by
  cases T with
  | none => exact (hs 56 (by omega)).trans h
  | some T =>
    obtain ⟨h1, h2, h3, h4, h5, h6, h7, h8⟩ := h
    exact ⟨(hs _ (by omega)).trans h1, (hs _ (by omega)).trans h2, (hs _ (by omega)).trans h3, (hs _ (by omega)).trans h4, (hs _ (by omega)).trans h5, (hs _ (by omega)).trans h6, (hs _ (by omega)).trans h7, (hs _ (by omega)).trans h8⟩
theorem isM_f {t : Nat} (h : t ≠ 22 ∧ t ≠ 23 ∧ ¬ (58 ≤ t ∧ t ≤ 96)) : isM t = false := by
  unfold isM
  have h3 : (Nat.ble 58 t && Nat.ble t 96) = false := by
    rw [Bool.and_eq_false_iff, Bool.eq_false_iff, Bool.eq_false_iff, Ne, Ne, Nat.ble_eq, Nat.ble_eq]
    omega
  rw [show (t == 22) = false by simp [h.1], show (t == 23) = false by simp [h.2.1], h3]; rfl
theorem isM_t {t : Nat} (h : t = 22 ∨ t = 23 ∨ (58 ≤ t ∧ t ≤ 96)) : isM t = true := by
  unfold isM
  rcases h with h | h | h
  · rw [h]; rfl
  · rw [h]; rfl
  · rw [Nat.ble_eq.mpr h.1, Nat.ble_eq.mpr h.2]; simp
/-- what the reference does leaves the class alone -/
theorem CI8_m {p : zPu} (hk : gm_M k = true) (e : sm_callM X true d k As σ = some (o, t)) (h : CI8 p B ci cj σ) : CI8 p B ci cj t := by
  obtain ⟨f1, f2, f3, f4, f5, f6, f7⟩ := gm_fr hk e
  have i1 : ∀ u c j, (u ≠ 22 ∧ u ≠ 23 ∧ ¬ (58 ≤ u ∧ u ≤ 96)) → t.1 u c j = σ.1 u c j := fun u c j hu => f1 u c j (isM_f hu)
  have i3 : ∀ u c j, (u ≠ 22 ∧ u ≠ 23 ∧ ¬ (58 ≤ u ∧ u ≤ 96)) → t.2.2.1 u c j = σ.2.2.1 u c j := fun u c j hu => f3 u c j (isM_f hu)
  obtain ⟨h1, h2, h3, h4, h5, h6, h7⟩ := h
  exact ⟨CRd_s (σ := σ) (fun u c j hu => i1 _ _ _ (by omega)) (i3 _ _ _ (by omega)) (i3 _ _ _ (by omega)) h1, CW_fr (σ := σ) (fun u c j hu => i1 _ _ _ (by omega)) (fun u c j hu => i3 _ _ _ (by omega)) (fun n hn => f7 51 n hn) (fun u hu => f4 u rfl) (f5 rfl) h2, CTo_s (σ := σ) (i1 _ _ _ (by omega)) (fun k => i1 _ _ _ (by omega)) h3, (i1 _ _ _ (by omega)).trans h4, fun j => (i1 _ _ _ (by omega)).trans (h5 j), (i1 _ _ _ (by omega)).trans h6, (i1 _ _ _ (by omega)).trans h7⟩
/-- what the class does leaves the reference alone -/
theorem MI8_c {p : zPu} (hk : gc_M k = true) (e : sm_callM X true d k As σ = some (o, t)) (h : MI8 p mi mj σ) : MI8 p mi mj t := by
  obtain ⟨f1, f2, f3, f4, f5, f6, f7⟩ := gc_fr hk e
  have i1 : ∀ u c j, (u = 22 ∨ u = 23 ∨ (58 ≤ u ∧ u ≤ 96)) → t.1 u c j = σ.1 u c j := fun u c j hu => f1 u c j (by show (!(isM u)) = false; rw [isM_t hu]; rfl)
  have i3 : ∀ u c j, (u = 22 ∨ u = 23 ∨ (58 ≤ u ∧ u ≤ 96)) → t.2.2.1 u c j = σ.2.2.1 u c j := fun u c j hu => f3 u c j (by show (!(isM u)) = false; rw [isM_t hu]; rfl)
  obtain ⟨h1, h2, h3, h4, h5, h6, h7⟩ := h
  exact ⟨MRd_s (σ := σ) (fun u c j hu => i1 _ _ _ (by omega)) (i3 _ _ _ (by omega)) (i3 _ _ _ (by omega)) h1, MW_i (σ := σ) (fun u c j hu => i1 _ _ _ (by omega)) h2, MTo_s (σ := σ) (fun k hk => i1 _ _ _ (by omega)) h3, (i1 _ _ _ (by omega)).trans h4, fun j => (i1 _ _ _ (by omega)).trans (h5 j), (i1 _ _ _ (by omega)).trans h6, (i1 _ _ _ (by omega)).trans h7⟩
end
