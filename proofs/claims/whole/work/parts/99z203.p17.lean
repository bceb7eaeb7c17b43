section
/-! THE LAW: the script is gone through, both sides give the same each time -/
variable {X : Nat × (Nat → Int32)} {d k : Nat} {As : List sm_V} {o : sm_O} {s t σ σ' τ : sm_S} {B : Nat × Nat} {ci cj mi mj i : Nat} {a b c v w y : Int32} {p : zPu}
theorem cL_t {k : Nat} (hk : (sm_kn k == 2) = false) (hW : sm_Wd σ) : sm_callL X d k As σ = sm_callM X true d k As σ := by
  unfold sm_callL
  rw [hk]
  exact if_pos hW
theorem rI_in2 {y y' : Int32} {s s' : sm_S} (h : (rI y s : sm_R) = rI y' s') : y = y' ∧ s = s' := by
  cases h; exact ⟨rfl, rfl⟩
theorem lw_pair {kc km : Nat} (hQ : Q8r X kc km As) (hkc : gc_M kc = true) (hkm : gm_M km = true) (n1 : (sm_kn kc == 2) = false) (n2 : (sm_kn km == 2) = false) (hp : PI8 p) (h1 : CI8 p B ci cj σ) (h2 : MI8 p mi mj σ) (hW : sm_Wd σ) : ∃ (y : Int32) (σ1 σ2 : sm_S) (p' : zPu) (ci' cj' mi' mj' : Nat), sm_callL X 500 kc (vP (21, 0) :: As) σ = rI y σ1 ∧ sm_callL X 500 km (vP (23, 0) :: As) σ1 = rI y σ2 ∧ PI8 p' ∧ CI8 p' B ci' cj' σ2 ∧ MI8 p' mi' mj' σ2 ∧ sm_Wd σ2 := by
  obtain ⟨y1, p1, -, -, -, -, -, ⟨σ1, e1, -⟩, -⟩ := hQ p B ci cj mi mj σ σ hp h1 h2
  have hm : MI8 p mi mj σ1 := MI8_c hkc e1 h2
  obtain ⟨y2, p2, ci2, cj2, mi2, mj2, hp2, ⟨σ1', e1', g2⟩, σ2, e2, g3⟩ := hQ p B ci cj mi mj σ σ1 hp h1 hm
  obtain ⟨rfl, rfl⟩ := rI_in2 (e1.symm.trans e1')
  have w1 : sm_Wd σ1 := sm_Wd_call hW e1
  exact ⟨y1, σ1, σ2, p2, ci2, cj2, mi2, mj2, (cL_t n1 hW).trans e1, (cL_t n2 w1).trans e2, hp2, CI8_m hkm e2 g2, g3, sm_Wd_call w1 e2⟩
theorem lw_c {L : Nat} (hL : L ≤ 3072) (hi : i ≤ 3078) : (Int32.ofNat L - 6 < Int32.ofNat i) ↔ L < i + 6 := by
  by_cases z : 6 ≤ L
  · obtain ⟨m, rfl⟩ := Nat.exists_eq_add_of_le z
    rw [show Int32.ofNat (6 + m) - 6 = Int32.ofNat m from i_sub (p := 6), i_lt (by omega) (by omega)]; omega
  · have h6 : ∀ L, L < 6 → (Int32.ofNat L - 6).toInt < 0 := by decide
    have h7 := h6 L (by omega)
    rw [Int32.lt_iff_toInt_lt, Int32.toInt_ofNat_of_lt (by omega)]
    omega
theorem lw_end (hB1 : B.1 + 710 ≤ 601024) (hB2 : B.2 + 5250 ≤ 7293033) (hp : PI8 p) (h : CI8 p B ci cj σ) : sm_cells σ ≤ 601024 ∧ sm_slots σ ≤ 7293033 := by
  obtain ⟨z1, z2⟩ := h.2.1.2.2.2.2.2
  obtain ⟨a1, a2, a3, a4, -⟩ := hp.1.1
  constructor
  · show σ.2.2.2.2.2.2.1 ≤ 601024
    omega
  · show σ.2.2.2.2.2.2.2 ≤ 7293033
    omega

theorem lw_0 (hL : X.1 ≤ 3072) (hi : i + 6 ≤ X.1) (z : X.2 i &&& 15 = 0) (hp : PI8 p) (h1 : CI8 p B ci cj σ) (h2 : MI8 p mi mj σ) (hW : sm_Wd σ) : ∃ (σ2 : sm_S) (p' : zPu) (ci' cj' mi' mj' : Nat), sm_go (sm_ZZ X) sm_PP false (sm_callL X 500) 308 18 [vP (4, 0), vP (21, 0), vP (23, 0), vI (Int32.ofNat i)] [] σ = sm_go (sm_ZZ X) sm_PP false (sm_callL X 500) 308 18 [vP (4, 0), vP (21, 0), vP (23, 0), vI (Int32.ofNat (i + 6))] [] σ2 ∧ PI8 p' ∧ CI8 p' B ci' cj' σ2 ∧ MI8 p' mi' mj' σ2 ∧ sm_Wd σ2 := by
  obtain ⟨y, σ1, σ2, p', ci', cj', mi', mj', e1, e2, k1, k2, k3, k4⟩ := lw_pair (X := X) (As := [vI (X.2 (i + 1)), vI (X.2 (i + 2)), vI (X.2 (i + 3)), vI (X.2 (i + 4)), vI (X.2 (i + 5))]) Q_feed (kc := 167) (km := 279) (by decide) (by decide) (by decide) (by decide) hp h1 h2 hW
  refine ⟨σ2, p', ci', cj', mi', mj', ?_, k1, k2, k3, k4⟩
  have a1 : Int32.ofNat i + 1 = Int32.ofNat (i + 1) := i_add (b := 1)
  have a2 : Int32.ofNat i + 2 = Int32.ofNat (i + 2) := i_add (b := 2)
  have a3 : Int32.ofNat i + 3 = Int32.ofNat (i + 3) := i_add (b := 3)
  have a4 : Int32.ofNat i + 4 = Int32.ofNat (i + 4) := i_add (b := 4)
  have a5 : Int32.ofNat i + 5 = Int32.ofNat (i + 5) := i_add (b := 5)
  have a6 : Int32.ofNat i + 6 = Int32.ofNat (i + 6) := i_add (b := 6)
  rw [q_law_18, if_neg (fun q => by have := (lw_c hL (by omega)).mp q; omega), ix_nat (k := i) (n := X.1) (by omega) (by omega), if_pos z, a1, a2, a3, a4, a5, a6, ix_nat (k := i + 1) (n := X.1) (by omega) (by omega), ix_nat (k := i + 2) (n := X.1) (by omega) (by omega), ix_nat (k := i + 3) (n := X.1) (by omega) (by omega), ix_nat (k := i + 4) (n := X.1) (by omega) (by omega), ix_nat (k := i + 5) (n := X.1) (by omega) (by omega), if_pos rfl, e1, bI_r, ix_nat (k := i + 1) (n := X.1) (by omega) (by omega), ix_nat (k := i + 2) (n := X.1) (by omega) (by omega), ix_nat (k := i + 3) (n := X.1) (by omega) (by omega), ix_nat (k := i + 4) (n := X.1) (by omega) (by omega), ix_nat (k := i + 5) (n := X.1) (by omega) (by omega), if_pos rfl, e2, bI_r, if_pos rfl]
theorem lw_1 (hL : X.1 ≤ 3072) (hi : i + 6 ≤ X.1) (z : X.2 i &&& 15 = 1) (hp : PI8 p) (h1 : CI8 p B ci cj σ) (h2 : MI8 p mi mj σ) (hW : sm_Wd σ) : ∃ (σ2 : sm_S) (p' : zPu) (ci' cj' mi' mj' : Nat), sm_go (sm_ZZ X) sm_PP false (sm_callL X 500) 308 18 [vP (4, 0), vP (21, 0), vP (23, 0), vI (Int32.ofNat i)] [] σ = sm_go (sm_ZZ X) sm_PP false (sm_callL X 500) 308 18 [vP (4, 0), vP (21, 0), vP (23, 0), vI (Int32.ofNat (i + 6))] [] σ2 ∧ PI8 p' ∧ CI8 p' B ci' cj' σ2 ∧ MI8 p' mi' mj' σ2 ∧ sm_Wd σ2 := by
  obtain ⟨y, σ1, σ2, p', ci', cj', mi', mj', e1, e2, k1, k2, k3, k4⟩ := lw_pair (X := X) (As := [vI (X.2 (i + 1))]) Q_load (kc := 168) (km := 280) (by decide) (by decide) (by decide) (by decide) hp h1 h2 hW
  refine ⟨σ2, p', ci', cj', mi', mj', ?_, k1, k2, k3, k4⟩
  have a1 : Int32.ofNat i + 1 = Int32.ofNat (i + 1) := i_add (b := 1)
  have a2 : Int32.ofNat i + 2 = Int32.ofNat (i + 2) := i_add (b := 2)
  have a3 : Int32.ofNat i + 3 = Int32.ofNat (i + 3) := i_add (b := 3)
  have a4 : Int32.ofNat i + 4 = Int32.ofNat (i + 4) := i_add (b := 4)
  have a5 : Int32.ofNat i + 5 = Int32.ofNat (i + 5) := i_add (b := 5)
  have a6 : Int32.ofNat i + 6 = Int32.ofNat (i + 6) := i_add (b := 6)
  rw [q_law_18, if_neg (fun q => by have := (lw_c hL (by omega)).mp q; omega), ix_nat (k := i) (n := X.1) (by omega) (by omega), if_neg (show ¬ (X.2 i &&& 15) = 0 by rw [z]; decide), if_pos z, a1, a6, ix_nat (k := i + 1) (n := X.1) (by omega) (by omega), if_pos rfl, e1, bI_r, ix_nat (k := i + 1) (n := X.1) (by omega) (by omega), if_pos rfl, e2, bI_r, if_pos rfl]
theorem lw_2 (hL : X.1 ≤ 3072) (hi : i + 6 ≤ X.1) (z : X.2 i &&& 15 = 2) (hp : PI8 p) (h1 : CI8 p B ci cj σ) (h2 : MI8 p mi mj σ) (hW : sm_Wd σ) : ∃ (σ2 : sm_S) (p' : zPu) (ci' cj' mi' mj' : Nat), sm_go (sm_ZZ X) sm_PP false (sm_callL X 500) 308 18 [vP (4, 0), vP (21, 0), vP (23, 0), vI (Int32.ofNat i)] [] σ = sm_go (sm_ZZ X) sm_PP false (sm_callL X 500) 308 18 [vP (4, 0), vP (21, 0), vP (23, 0), vI (Int32.ofNat (i + 6))] [] σ2 ∧ PI8 p' ∧ CI8 p' B ci' cj' σ2 ∧ MI8 p' mi' mj' σ2 ∧ sm_Wd σ2 := by
  obtain ⟨y, σ1, σ2, p', ci', cj', mi', mj', e1, e2, k1, k2, k3, k4⟩ := lw_pair (X := X) (As := [vI (X.2 (i + 1))]) Q_fault (kc := 169) (km := 281) (by decide) (by decide) (by decide) (by decide) hp h1 h2 hW
  refine ⟨σ2, p', ci', cj', mi', mj', ?_, k1, k2, k3, k4⟩
  have a1 : Int32.ofNat i + 1 = Int32.ofNat (i + 1) := i_add (b := 1)
  have a2 : Int32.ofNat i + 2 = Int32.ofNat (i + 2) := i_add (b := 2)
  have a3 : Int32.ofNat i + 3 = Int32.ofNat (i + 3) := i_add (b := 3)
  have a4 : Int32.ofNat i + 4 = Int32.ofNat (i + 4) := i_add (b := 4)
  have a5 : Int32.ofNat i + 5 = Int32.ofNat (i + 5) := i_add (b := 5)
  have a6 : Int32.ofNat i + 6 = Int32.ofNat (i + 6) := i_add (b := 6)
  rw [q_law_18, if_neg (fun q => by have := (lw_c hL (by omega)).mp q; omega), ix_nat (k := i) (n := X.1) (by omega) (by omega), if_neg (show ¬ (X.2 i &&& 15) = 0 by rw [z]; decide), if_neg (show ¬ (X.2 i &&& 15) = 1 by rw [z]; decide), if_pos z, a1, a6, ix_nat (k := i + 1) (n := X.1) (by omega) (by omega), if_pos rfl, e1, bI_r, ix_nat (k := i + 1) (n := X.1) (by omega) (by omega), if_pos rfl, e2, bI_r, if_pos rfl]
theorem lw_3 (hL : X.1 ≤ 3072) (hi : i + 6 ≤ X.1) (z : X.2 i &&& 15 = 3) (hp : PI8 p) (h1 : CI8 p B ci cj σ) (h2 : MI8 p mi mj σ) (hW : sm_Wd σ) : ∃ (σ2 : sm_S) (p' : zPu) (ci' cj' mi' mj' : Nat), sm_go (sm_ZZ X) sm_PP false (sm_callL X 500) 308 18 [vP (4, 0), vP (21, 0), vP (23, 0), vI (Int32.ofNat i)] [] σ = sm_go (sm_ZZ X) sm_PP false (sm_callL X 500) 308 18 [vP (4, 0), vP (21, 0), vP (23, 0), vI (Int32.ofNat (i + 6))] [] σ2 ∧ PI8 p' ∧ CI8 p' B ci' cj' σ2 ∧ MI8 p' mi' mj' σ2 ∧ sm_Wd σ2 := by
  obtain ⟨y, σ1, σ2, p', ci', cj', mi', mj', e1, e2, k1, k2, k3, k4⟩ := lw_pair (X := X) (As := [vI (X.2 (i + 1)), vI (X.2 (i + 2)), vI (X.2 (i + 3)), vI (X.2 (i + 4))]) Q_run (kc := 170) (km := 283) (by decide) (by decide) (by decide) (by decide) hp h1 h2 hW
  refine ⟨σ2, p', ci', cj', mi', mj', ?_, k1, k2, k3, k4⟩
  have a1 : Int32.ofNat i + 1 = Int32.ofNat (i + 1) := i_add (b := 1)
  have a2 : Int32.ofNat i + 2 = Int32.ofNat (i + 2) := i_add (b := 2)
  have a3 : Int32.ofNat i + 3 = Int32.ofNat (i + 3) := i_add (b := 3)
  have a4 : Int32.ofNat i + 4 = Int32.ofNat (i + 4) := i_add (b := 4)
  have a5 : Int32.ofNat i + 5 = Int32.ofNat (i + 5) := i_add (b := 5)
  have a6 : Int32.ofNat i + 6 = Int32.ofNat (i + 6) := i_add (b := 6)
  rw [q_law_18, if_neg (fun q => by have := (lw_c hL (by omega)).mp q; omega), ix_nat (k := i) (n := X.1) (by omega) (by omega), if_neg (show ¬ (X.2 i &&& 15) = 0 by rw [z]; decide), if_neg (show ¬ (X.2 i &&& 15) = 1 by rw [z]; decide), if_neg (show ¬ (X.2 i &&& 15) = 2 by rw [z]; decide), if_pos z, a1, a2, a3, a4, a6, ix_nat (k := i + 1) (n := X.1) (by omega) (by omega), ix_nat (k := i + 2) (n := X.1) (by omega) (by omega), ix_nat (k := i + 3) (n := X.1) (by omega) (by omega), ix_nat (k := i + 4) (n := X.1) (by omega) (by omega), if_pos rfl, e1, bI_r, ix_nat (k := i + 1) (n := X.1) (by omega) (by omega), ix_nat (k := i + 2) (n := X.1) (by omega) (by omega), ix_nat (k := i + 3) (n := X.1) (by omega) (by omega), ix_nat (k := i + 4) (n := X.1) (by omega) (by omega), if_pos rfl, e2, bI_r, if_pos rfl]
theorem lw_4 (hL : X.1 ≤ 3072) (hi : i + 6 ≤ X.1) (z : X.2 i &&& 15 = 4) (hp : PI8 p) (h1 : CI8 p B ci cj σ) (h2 : MI8 p mi mj σ) (hW : sm_Wd σ) : ∃ (σ2 : sm_S) (p' : zPu) (ci' cj' mi' mj' : Nat), sm_go (sm_ZZ X) sm_PP false (sm_callL X 500) 308 18 [vP (4, 0), vP (21, 0), vP (23, 0), vI (Int32.ofNat i)] [] σ = sm_go (sm_ZZ X) sm_PP false (sm_callL X 500) 308 18 [vP (4, 0), vP (21, 0), vP (23, 0), vI (Int32.ofNat (i + 6))] [] σ2 ∧ PI8 p' ∧ CI8 p' B ci' cj' σ2 ∧ MI8 p' mi' mj' σ2 ∧ sm_Wd σ2 := by
  obtain ⟨y, σ1, σ2, p', ci', cj', mi', mj', e1, e2, k1, k2, k3, k4⟩ := lw_pair (X := X) (As := [vI (X.2 (i + 1))]) Q_told (kc := 171) (km := 284) (by decide) (by decide) (by decide) (by decide) hp h1 h2 hW
  refine ⟨σ2, p', ci', cj', mi', mj', ?_, k1, k2, k3, k4⟩
  have a1 : Int32.ofNat i + 1 = Int32.ofNat (i + 1) := i_add (b := 1)
  have a2 : Int32.ofNat i + 2 = Int32.ofNat (i + 2) := i_add (b := 2)
  have a3 : Int32.ofNat i + 3 = Int32.ofNat (i + 3) := i_add (b := 3)
  have a4 : Int32.ofNat i + 4 = Int32.ofNat (i + 4) := i_add (b := 4)
  have a5 : Int32.ofNat i + 5 = Int32.ofNat (i + 5) := i_add (b := 5)
  have a6 : Int32.ofNat i + 6 = Int32.ofNat (i + 6) := i_add (b := 6)
  rw [q_law_18, if_neg (fun q => by have := (lw_c hL (by omega)).mp q; omega), ix_nat (k := i) (n := X.1) (by omega) (by omega), if_neg (show ¬ (X.2 i &&& 15) = 0 by rw [z]; decide), if_neg (show ¬ (X.2 i &&& 15) = 1 by rw [z]; decide), if_neg (show ¬ (X.2 i &&& 15) = 2 by rw [z]; decide), if_neg (show ¬ (X.2 i &&& 15) = 3 by rw [z]; decide), if_pos z, a1, a6, ix_nat (k := i + 1) (n := X.1) (by omega) (by omega), if_pos rfl, e1, bI_r, ix_nat (k := i + 1) (n := X.1) (by omega) (by omega), if_pos rfl, e2, bI_r, if_pos rfl]
theorem lw_5 (hL : X.1 ≤ 3072) (hi : i + 6 ≤ X.1) (z : X.2 i &&& 15 = 5) (hp : PI8 p) (h1 : CI8 p B ci cj σ) (h2 : MI8 p mi mj σ) (hW : sm_Wd σ) : ∃ (σ2 : sm_S) (p' : zPu) (ci' cj' mi' mj' : Nat), sm_go (sm_ZZ X) sm_PP false (sm_callL X 500) 308 18 [vP (4, 0), vP (21, 0), vP (23, 0), vI (Int32.ofNat i)] [] σ = sm_go (sm_ZZ X) sm_PP false (sm_callL X 500) 308 18 [vP (4, 0), vP (21, 0), vP (23, 0), vI (Int32.ofNat (i + 6))] [] σ2 ∧ PI8 p' ∧ CI8 p' B ci' cj' σ2 ∧ MI8 p' mi' mj' σ2 ∧ sm_Wd σ2 := by
  obtain ⟨y, σ1, σ2, p', ci', cj', mi', mj', e1, e2, k1, k2, k3, k4⟩ := lw_pair (X := X) (As := [vI (X.2 (i + 1))]) Q_said (kc := 172) (km := 285) (by decide) (by decide) (by decide) (by decide) hp h1 h2 hW
  refine ⟨σ2, p', ci', cj', mi', mj', ?_, k1, k2, k3, k4⟩
  have a1 : Int32.ofNat i + 1 = Int32.ofNat (i + 1) := i_add (b := 1)
  have a2 : Int32.ofNat i + 2 = Int32.ofNat (i + 2) := i_add (b := 2)
  have a3 : Int32.ofNat i + 3 = Int32.ofNat (i + 3) := i_add (b := 3)
  have a4 : Int32.ofNat i + 4 = Int32.ofNat (i + 4) := i_add (b := 4)
  have a5 : Int32.ofNat i + 5 = Int32.ofNat (i + 5) := i_add (b := 5)
  have a6 : Int32.ofNat i + 6 = Int32.ofNat (i + 6) := i_add (b := 6)
  rw [q_law_18, if_neg (fun q => by have := (lw_c hL (by omega)).mp q; omega), ix_nat (k := i) (n := X.1) (by omega) (by omega), if_neg (show ¬ (X.2 i &&& 15) = 0 by rw [z]; decide), if_neg (show ¬ (X.2 i &&& 15) = 1 by rw [z]; decide), if_neg (show ¬ (X.2 i &&& 15) = 2 by rw [z]; decide), if_neg (show ¬ (X.2 i &&& 15) = 3 by rw [z]; decide), if_neg (show ¬ (X.2 i &&& 15) = 4 by rw [z]; decide), if_pos z, a1, a6, ix_nat (k := i + 1) (n := X.1) (by omega) (by omega), if_pos rfl, e1, bI_r, ix_nat (k := i + 1) (n := X.1) (by omega) (by omega), if_pos rfl, e2, bI_r, if_pos rfl]
theorem lw_6 (hL : X.1 ≤ 3072) (hi : i + 6 ≤ X.1) (z : X.2 i &&& 15 = 6) (hp : PI8 p) (h1 : CI8 p B ci cj σ) (h2 : MI8 p mi mj σ) (hW : sm_Wd σ) : ∃ (σ2 : sm_S) (p' : zPu) (ci' cj' mi' mj' : Nat), sm_go (sm_ZZ X) sm_PP false (sm_callL X 500) 308 18 [vP (4, 0), vP (21, 0), vP (23, 0), vI (Int32.ofNat i)] [] σ = sm_go (sm_ZZ X) sm_PP false (sm_callL X 500) 308 18 [vP (4, 0), vP (21, 0), vP (23, 0), vI (Int32.ofNat (i + 6))] [] σ2 ∧ PI8 p' ∧ CI8 p' B ci' cj' σ2 ∧ MI8 p' mi' mj' σ2 ∧ sm_Wd σ2 := by
  obtain ⟨y, σ1, σ2, p', ci', cj', mi', mj', e1, e2, k1, k2, k3, k4⟩ := lw_pair (X := X) (As := [vI (X.2 (i + 1)), vI (X.2 (i + 2))]) Q_state (kc := 173) (km := 286) (by decide) (by decide) (by decide) (by decide) hp h1 h2 hW
  refine ⟨σ2, p', ci', cj', mi', mj', ?_, k1, k2, k3, k4⟩
  have a1 : Int32.ofNat i + 1 = Int32.ofNat (i + 1) := i_add (b := 1)
  have a2 : Int32.ofNat i + 2 = Int32.ofNat (i + 2) := i_add (b := 2)
  have a3 : Int32.ofNat i + 3 = Int32.ofNat (i + 3) := i_add (b := 3)
  have a4 : Int32.ofNat i + 4 = Int32.ofNat (i + 4) := i_add (b := 4)
  have a5 : Int32.ofNat i + 5 = Int32.ofNat (i + 5) := i_add (b := 5)
  have a6 : Int32.ofNat i + 6 = Int32.ofNat (i + 6) := i_add (b := 6)
  rw [q_law_18, if_neg (fun q => by have := (lw_c hL (by omega)).mp q; omega), ix_nat (k := i) (n := X.1) (by omega) (by omega), if_neg (show ¬ (X.2 i &&& 15) = 0 by rw [z]; decide), if_neg (show ¬ (X.2 i &&& 15) = 1 by rw [z]; decide), if_neg (show ¬ (X.2 i &&& 15) = 2 by rw [z]; decide), if_neg (show ¬ (X.2 i &&& 15) = 3 by rw [z]; decide), if_neg (show ¬ (X.2 i &&& 15) = 4 by rw [z]; decide), if_neg (show ¬ (X.2 i &&& 15) = 5 by rw [z]; decide), if_pos z, a1, a2, a6, ix_nat (k := i + 1) (n := X.1) (by omega) (by omega), ix_nat (k := i + 2) (n := X.1) (by omega) (by omega), if_pos rfl, e1, bI_r, ix_nat (k := i + 1) (n := X.1) (by omega) (by omega), ix_nat (k := i + 2) (n := X.1) (by omega) (by omega), if_pos rfl, e2, bI_r, if_pos rfl]
theorem lw_7 (hL : X.1 ≤ 3072) (hi : i + 6 ≤ X.1) (z : X.2 i &&& 15 = 7) (hp : PI8 p) (h1 : CI8 p B ci cj σ) (h2 : MI8 p mi mj σ) (hW : sm_Wd σ) : ∃ (σ2 : sm_S) (p' : zPu) (ci' cj' mi' mj' : Nat), sm_go (sm_ZZ X) sm_PP false (sm_callL X 500) 308 18 [vP (4, 0), vP (21, 0), vP (23, 0), vI (Int32.ofNat i)] [] σ = sm_go (sm_ZZ X) sm_PP false (sm_callL X 500) 308 18 [vP (4, 0), vP (21, 0), vP (23, 0), vI (Int32.ofNat (i + 6))] [] σ2 ∧ PI8 p' ∧ CI8 p' B ci' cj' σ2 ∧ MI8 p' mi' mj' σ2 ∧ sm_Wd σ2 := by
  obtain ⟨y, σ1, σ2, p', ci', cj', mi', mj', e1, e2, k1, k2, k3, k4⟩ := lw_pair (X := X) (As := [vI (X.2 (i + 1))]) Q_tick (kc := 174) (km := 287) (by decide) (by decide) (by decide) (by decide) hp h1 h2 hW
  refine ⟨σ2, p', ci', cj', mi', mj', ?_, k1, k2, k3, k4⟩
  have a1 : Int32.ofNat i + 1 = Int32.ofNat (i + 1) := i_add (b := 1)
  have a2 : Int32.ofNat i + 2 = Int32.ofNat (i + 2) := i_add (b := 2)
  have a3 : Int32.ofNat i + 3 = Int32.ofNat (i + 3) := i_add (b := 3)
  have a4 : Int32.ofNat i + 4 = Int32.ofNat (i + 4) := i_add (b := 4)
  have a5 : Int32.ofNat i + 5 = Int32.ofNat (i + 5) := i_add (b := 5)
  have a6 : Int32.ofNat i + 6 = Int32.ofNat (i + 6) := i_add (b := 6)
  rw [q_law_18, if_neg (fun q => by have := (lw_c hL (by omega)).mp q; omega), ix_nat (k := i) (n := X.1) (by omega) (by omega), if_neg (show ¬ (X.2 i &&& 15) = 0 by rw [z]; decide), if_neg (show ¬ (X.2 i &&& 15) = 1 by rw [z]; decide), if_neg (show ¬ (X.2 i &&& 15) = 2 by rw [z]; decide), if_neg (show ¬ (X.2 i &&& 15) = 3 by rw [z]; decide), if_neg (show ¬ (X.2 i &&& 15) = 4 by rw [z]; decide), if_neg (show ¬ (X.2 i &&& 15) = 5 by rw [z]; decide), if_neg (show ¬ (X.2 i &&& 15) = 6 by rw [z]; decide), if_pos z, a1, a6, ix_nat (k := i + 1) (n := X.1) (by omega) (by omega), if_pos rfl, e1, bI_r, ix_nat (k := i + 1) (n := X.1) (by omega) (by omega), if_pos rfl, e2, bI_r, if_pos rfl]
theorem lw_8 (hL : X.1 ≤ 3072) (hi : i + 6 ≤ X.1) (z : X.2 i &&& 15 = 8) (hp : PI8 p) (h1 : CI8 p B ci cj σ) (h2 : MI8 p mi mj σ) (hW : sm_Wd σ) : ∃ (σ2 : sm_S) (p' : zPu) (ci' cj' mi' mj' : Nat), sm_go (sm_ZZ X) sm_PP false (sm_callL X 500) 308 18 [vP (4, 0), vP (21, 0), vP (23, 0), vI (Int32.ofNat i)] [] σ = sm_go (sm_ZZ X) sm_PP false (sm_callL X 500) 308 18 [vP (4, 0), vP (21, 0), vP (23, 0), vI (Int32.ofNat (i + 6))] [] σ2 ∧ PI8 p' ∧ CI8 p' B ci' cj' σ2 ∧ MI8 p' mi' mj' σ2 ∧ sm_Wd σ2 := by
  obtain ⟨y, σ1, σ2, p', ci', cj', mi', mj', e1, e2, k1, k2, k3, k4⟩ := lw_pair (X := X) (As := [vI (X.2 (i + 1)), vI (X.2 (i + 2))]) Q_veh (kc := 175) (km := 288) (by decide) (by decide) (by decide) (by decide) hp h1 h2 hW
  refine ⟨σ2, p', ci', cj', mi', mj', ?_, k1, k2, k3, k4⟩
  have a1 : Int32.ofNat i + 1 = Int32.ofNat (i + 1) := i_add (b := 1)
  have a2 : Int32.ofNat i + 2 = Int32.ofNat (i + 2) := i_add (b := 2)
  have a3 : Int32.ofNat i + 3 = Int32.ofNat (i + 3) := i_add (b := 3)
  have a4 : Int32.ofNat i + 4 = Int32.ofNat (i + 4) := i_add (b := 4)
  have a5 : Int32.ofNat i + 5 = Int32.ofNat (i + 5) := i_add (b := 5)
  have a6 : Int32.ofNat i + 6 = Int32.ofNat (i + 6) := i_add (b := 6)
  rw [q_law_18, if_neg (fun q => by have := (lw_c hL (by omega)).mp q; omega), ix_nat (k := i) (n := X.1) (by omega) (by omega), if_neg (show ¬ (X.2 i &&& 15) = 0 by rw [z]; decide), if_neg (show ¬ (X.2 i &&& 15) = 1 by rw [z]; decide), if_neg (show ¬ (X.2 i &&& 15) = 2 by rw [z]; decide), if_neg (show ¬ (X.2 i &&& 15) = 3 by rw [z]; decide), if_neg (show ¬ (X.2 i &&& 15) = 4 by rw [z]; decide), if_neg (show ¬ (X.2 i &&& 15) = 5 by rw [z]; decide), if_neg (show ¬ (X.2 i &&& 15) = 6 by rw [z]; decide), if_neg (show ¬ (X.2 i &&& 15) = 7 by rw [z]; decide), if_pos z, a1, a2, a6, ix_nat (k := i + 1) (n := X.1) (by omega) (by omega), ix_nat (k := i + 2) (n := X.1) (by omega) (by omega), if_pos rfl, e1, bI_r, ix_nat (k := i + 1) (n := X.1) (by omega) (by omega), ix_nat (k := i + 2) (n := X.1) (by omega) (by omega), if_pos rfl, e2, bI_r, if_pos rfl]
theorem lw_9 (hL : X.1 ≤ 3072) (hi : i + 6 ≤ X.1) (z : X.2 i &&& 15 = 9) (hp : PI8 p) (h1 : CI8 p B ci cj σ) (h2 : MI8 p mi mj σ) (hW : sm_Wd σ) : ∃ (σ2 : sm_S) (p' : zPu) (ci' cj' mi' mj' : Nat), sm_go (sm_ZZ X) sm_PP false (sm_callL X 500) 308 18 [vP (4, 0), vP (21, 0), vP (23, 0), vI (Int32.ofNat i)] [] σ = sm_go (sm_ZZ X) sm_PP false (sm_callL X 500) 308 18 [vP (4, 0), vP (21, 0), vP (23, 0), vI (Int32.ofNat (i + 6))] [] σ2 ∧ PI8 p' ∧ CI8 p' B ci' cj' σ2 ∧ MI8 p' mi' mj' σ2 ∧ sm_Wd σ2 := by
  obtain ⟨y, σ1, σ2, p', ci', cj', mi', mj', e1, e2, k1, k2, k3, k4⟩ := lw_pair (X := X) (As := [vI (X.2 (i + 1)), vI (X.2 (i + 2))]) Q_track (kc := 176) (km := 290) (by decide) (by decide) (by decide) (by decide) hp h1 h2 hW
  refine ⟨σ2, p', ci', cj', mi', mj', ?_, k1, k2, k3, k4⟩
  have a1 : Int32.ofNat i + 1 = Int32.ofNat (i + 1) := i_add (b := 1)
  have a2 : Int32.ofNat i + 2 = Int32.ofNat (i + 2) := i_add (b := 2)
  have a3 : Int32.ofNat i + 3 = Int32.ofNat (i + 3) := i_add (b := 3)
  have a4 : Int32.ofNat i + 4 = Int32.ofNat (i + 4) := i_add (b := 4)
  have a5 : Int32.ofNat i + 5 = Int32.ofNat (i + 5) := i_add (b := 5)
  have a6 : Int32.ofNat i + 6 = Int32.ofNat (i + 6) := i_add (b := 6)
  rw [q_law_18, if_neg (fun q => by have := (lw_c hL (by omega)).mp q; omega), ix_nat (k := i) (n := X.1) (by omega) (by omega), if_neg (show ¬ (X.2 i &&& 15) = 0 by rw [z]; decide), if_neg (show ¬ (X.2 i &&& 15) = 1 by rw [z]; decide), if_neg (show ¬ (X.2 i &&& 15) = 2 by rw [z]; decide), if_neg (show ¬ (X.2 i &&& 15) = 3 by rw [z]; decide), if_neg (show ¬ (X.2 i &&& 15) = 4 by rw [z]; decide), if_neg (show ¬ (X.2 i &&& 15) = 5 by rw [z]; decide), if_neg (show ¬ (X.2 i &&& 15) = 6 by rw [z]; decide), if_neg (show ¬ (X.2 i &&& 15) = 7 by rw [z]; decide), if_neg (show ¬ (X.2 i &&& 15) = 8 by rw [z]; decide), if_pos z, a1, a2, a6, ix_nat (k := i + 1) (n := X.1) (by omega) (by omega), ix_nat (k := i + 2) (n := X.1) (by omega) (by omega), if_pos rfl, e1, bI_r, ix_nat (k := i + 1) (n := X.1) (by omega) (by omega), ix_nat (k := i + 2) (n := X.1) (by omega) (by omega), if_pos rfl, e2, bI_r, if_pos rfl]
theorem lw_10 (hL : X.1 ≤ 3072) (hi : i + 6 ≤ X.1) (z : X.2 i &&& 15 = 10) (hp : PI8 p) (h1 : CI8 p B ci cj σ) (h2 : MI8 p mi mj σ) (hW : sm_Wd σ) : ∃ (σ2 : sm_S) (p' : zPu) (ci' cj' mi' mj' : Nat), sm_go (sm_ZZ X) sm_PP false (sm_callL X 500) 308 18 [vP (4, 0), vP (21, 0), vP (23, 0), vI (Int32.ofNat i)] [] σ = sm_go (sm_ZZ X) sm_PP false (sm_callL X 500) 308 18 [vP (4, 0), vP (21, 0), vP (23, 0), vI (Int32.ofNat (i + 6))] [] σ2 ∧ PI8 p' ∧ CI8 p' B ci' cj' σ2 ∧ MI8 p' mi' mj' σ2 ∧ sm_Wd σ2 := by
  obtain ⟨y, σ1, σ2, p', ci', cj', mi', mj', e1, e2, k1, k2, k3, k4⟩ := lw_pair (X := X) (As := [vI (X.2 (i + 1)), vI (X.2 (i + 2))]) Q_place (kc := 177) (km := 291) (by decide) (by decide) (by decide) (by decide) hp h1 h2 hW
  refine ⟨σ2, p', ci', cj', mi', mj', ?_, k1, k2, k3, k4⟩
  have a1 : Int32.ofNat i + 1 = Int32.ofNat (i + 1) := i_add (b := 1)
  have a2 : Int32.ofNat i + 2 = Int32.ofNat (i + 2) := i_add (b := 2)
  have a3 : Int32.ofNat i + 3 = Int32.ofNat (i + 3) := i_add (b := 3)
  have a4 : Int32.ofNat i + 4 = Int32.ofNat (i + 4) := i_add (b := 4)
  have a5 : Int32.ofNat i + 5 = Int32.ofNat (i + 5) := i_add (b := 5)
  have a6 : Int32.ofNat i + 6 = Int32.ofNat (i + 6) := i_add (b := 6)
  rw [q_law_18, if_neg (fun q => by have := (lw_c hL (by omega)).mp q; omega), ix_nat (k := i) (n := X.1) (by omega) (by omega), if_neg (show ¬ (X.2 i &&& 15) = 0 by rw [z]; decide), if_neg (show ¬ (X.2 i &&& 15) = 1 by rw [z]; decide), if_neg (show ¬ (X.2 i &&& 15) = 2 by rw [z]; decide), if_neg (show ¬ (X.2 i &&& 15) = 3 by rw [z]; decide), if_neg (show ¬ (X.2 i &&& 15) = 4 by rw [z]; decide), if_neg (show ¬ (X.2 i &&& 15) = 5 by rw [z]; decide), if_neg (show ¬ (X.2 i &&& 15) = 6 by rw [z]; decide), if_neg (show ¬ (X.2 i &&& 15) = 7 by rw [z]; decide), if_neg (show ¬ (X.2 i &&& 15) = 8 by rw [z]; decide), if_neg (show ¬ (X.2 i &&& 15) = 9 by rw [z]; decide), if_pos z, a1, a2, a6, ix_nat (k := i + 1) (n := X.1) (by omega) (by omega), ix_nat (k := i + 2) (n := X.1) (by omega) (by omega), if_pos rfl, e1, bI_r, ix_nat (k := i + 1) (n := X.1) (by omega) (by omega), ix_nat (k := i + 2) (n := X.1) (by omega) (by omega), if_pos rfl, e2, bI_r, if_pos rfl]
theorem lw_11 (hL : X.1 ≤ 3072) (hi : i + 6 ≤ X.1) (z : X.2 i &&& 15 = 11) (hp : PI8 p) (h1 : CI8 p B ci cj σ) (h2 : MI8 p mi mj σ) (hW : sm_Wd σ) : ∃ (σ2 : sm_S) (p' : zPu) (ci' cj' mi' mj' : Nat), sm_go (sm_ZZ X) sm_PP false (sm_callL X 500) 308 18 [vP (4, 0), vP (21, 0), vP (23, 0), vI (Int32.ofNat i)] [] σ = sm_go (sm_ZZ X) sm_PP false (sm_callL X 500) 308 18 [vP (4, 0), vP (21, 0), vP (23, 0), vI (Int32.ofNat (i + 6))] [] σ2 ∧ PI8 p' ∧ CI8 p' B ci' cj' σ2 ∧ MI8 p' mi' mj' σ2 ∧ sm_Wd σ2 := by
  obtain ⟨y, σ1, σ2, p', ci', cj', mi', mj', e1, e2, k1, k2, k3, k4⟩ := lw_pair (X := X) (As := [vI (X.2 (i + 1)), vI (X.2 (i + 2))]) Q_train (kc := 178) (km := 292) (by decide) (by decide) (by decide) (by decide) hp h1 h2 hW
  refine ⟨σ2, p', ci', cj', mi', mj', ?_, k1, k2, k3, k4⟩
  have a1 : Int32.ofNat i + 1 = Int32.ofNat (i + 1) := i_add (b := 1)
  have a2 : Int32.ofNat i + 2 = Int32.ofNat (i + 2) := i_add (b := 2)
  have a3 : Int32.ofNat i + 3 = Int32.ofNat (i + 3) := i_add (b := 3)
  have a4 : Int32.ofNat i + 4 = Int32.ofNat (i + 4) := i_add (b := 4)
  have a5 : Int32.ofNat i + 5 = Int32.ofNat (i + 5) := i_add (b := 5)
  have a6 : Int32.ofNat i + 6 = Int32.ofNat (i + 6) := i_add (b := 6)
  rw [q_law_18, if_neg (fun q => by have := (lw_c hL (by omega)).mp q; omega), ix_nat (k := i) (n := X.1) (by omega) (by omega), if_neg (show ¬ (X.2 i &&& 15) = 0 by rw [z]; decide), if_neg (show ¬ (X.2 i &&& 15) = 1 by rw [z]; decide), if_neg (show ¬ (X.2 i &&& 15) = 2 by rw [z]; decide), if_neg (show ¬ (X.2 i &&& 15) = 3 by rw [z]; decide), if_neg (show ¬ (X.2 i &&& 15) = 4 by rw [z]; decide), if_neg (show ¬ (X.2 i &&& 15) = 5 by rw [z]; decide), if_neg (show ¬ (X.2 i &&& 15) = 6 by rw [z]; decide), if_neg (show ¬ (X.2 i &&& 15) = 7 by rw [z]; decide), if_neg (show ¬ (X.2 i &&& 15) = 8 by rw [z]; decide), if_neg (show ¬ (X.2 i &&& 15) = 9 by rw [z]; decide), if_neg (show ¬ (X.2 i &&& 15) = 10 by rw [z]; decide), if_pos z, a1, a2, a6, ix_nat (k := i + 1) (n := X.1) (by omega) (by omega), ix_nat (k := i + 2) (n := X.1) (by omega) (by omega), if_pos rfl, e1, bI_r, ix_nat (k := i + 1) (n := X.1) (by omega) (by omega), ix_nat (k := i + 2) (n := X.1) (by omega) (by omega), if_pos rfl, e2, bI_r, if_pos rfl]
theorem lw_12 (hL : X.1 ≤ 3072) (hi : i + 6 ≤ X.1) (z : X.2 i &&& 15 = 12) (hp : PI8 p) (h1 : CI8 p B ci cj σ) (h2 : MI8 p mi mj σ) (hW : sm_Wd σ) : ∃ (σ2 : sm_S) (p' : zPu) (ci' cj' mi' mj' : Nat), sm_go (sm_ZZ X) sm_PP false (sm_callL X 500) 308 18 [vP (4, 0), vP (21, 0), vP (23, 0), vI (Int32.ofNat i)] [] σ = sm_go (sm_ZZ X) sm_PP false (sm_callL X 500) 308 18 [vP (4, 0), vP (21, 0), vP (23, 0), vI (Int32.ofNat (i + 6))] [] σ2 ∧ PI8 p' ∧ CI8 p' B ci' cj' σ2 ∧ MI8 p' mi' mj' σ2 ∧ sm_Wd σ2 := by
  obtain ⟨y, σ1, σ2, p', ci', cj', mi', mj', e1, e2, k1, k2, k3, k4⟩ := lw_pair (X := X) (As := [vI (X.2 (i + 1))]) Q_count (kc := 179) (km := 293) (by decide) (by decide) (by decide) (by decide) hp h1 h2 hW
  refine ⟨σ2, p', ci', cj', mi', mj', ?_, k1, k2, k3, k4⟩
  have a1 : Int32.ofNat i + 1 = Int32.ofNat (i + 1) := i_add (b := 1)
  have a2 : Int32.ofNat i + 2 = Int32.ofNat (i + 2) := i_add (b := 2)
  have a3 : Int32.ofNat i + 3 = Int32.ofNat (i + 3) := i_add (b := 3)
  have a4 : Int32.ofNat i + 4 = Int32.ofNat (i + 4) := i_add (b := 4)
  have a5 : Int32.ofNat i + 5 = Int32.ofNat (i + 5) := i_add (b := 5)
  have a6 : Int32.ofNat i + 6 = Int32.ofNat (i + 6) := i_add (b := 6)
  rw [q_law_18, if_neg (fun q => by have := (lw_c hL (by omega)).mp q; omega), ix_nat (k := i) (n := X.1) (by omega) (by omega), if_neg (show ¬ (X.2 i &&& 15) = 0 by rw [z]; decide), if_neg (show ¬ (X.2 i &&& 15) = 1 by rw [z]; decide), if_neg (show ¬ (X.2 i &&& 15) = 2 by rw [z]; decide), if_neg (show ¬ (X.2 i &&& 15) = 3 by rw [z]; decide), if_neg (show ¬ (X.2 i &&& 15) = 4 by rw [z]; decide), if_neg (show ¬ (X.2 i &&& 15) = 5 by rw [z]; decide), if_neg (show ¬ (X.2 i &&& 15) = 6 by rw [z]; decide), if_neg (show ¬ (X.2 i &&& 15) = 7 by rw [z]; decide), if_neg (show ¬ (X.2 i &&& 15) = 8 by rw [z]; decide), if_neg (show ¬ (X.2 i &&& 15) = 9 by rw [z]; decide), if_neg (show ¬ (X.2 i &&& 15) = 10 by rw [z]; decide), if_neg (show ¬ (X.2 i &&& 15) = 11 by rw [z]; decide), if_pos z, a1, a6, ix_nat (k := i + 1) (n := X.1) (by omega) (by omega), if_pos rfl, e1, bI_r, ix_nat (k := i + 1) (n := X.1) (by omega) (by omega), if_pos rfl, e2, bI_r, if_pos rfl]
theorem lw_13 (hL : X.1 ≤ 3072) (hi : i + 6 ≤ X.1) (z : ∀ n, n < 13 → X.2 i &&& 15 ≠ Int32.ofNat n) : sm_go (sm_ZZ X) sm_PP false (sm_callL X 500) 308 18 [vP (4, 0), vP (21, 0), vP (23, 0), vI (Int32.ofNat i)] [] σ = sm_go (sm_ZZ X) sm_PP false (sm_callL X 500) 308 18 [vP (4, 0), vP (21, 0), vP (23, 0), vI (Int32.ofNat (i + 6))] [] σ := by
  have a6 : Int32.ofNat i + 6 = Int32.ofNat (i + 6) := i_add (b := 6)
  rw [q_law_18, if_neg (fun q => by have := (lw_c hL (by omega)).mp q; omega), ix_nat (k := i) (n := X.1) (by omega) (by omega), if_neg (show ¬ (X.2 i &&& 15) = 0 from z 0 (by decide)), if_neg (show ¬ (X.2 i &&& 15) = 1 from z 1 (by decide)), if_neg (show ¬ (X.2 i &&& 15) = 2 from z 2 (by decide)), if_neg (show ¬ (X.2 i &&& 15) = 3 from z 3 (by decide)), if_neg (show ¬ (X.2 i &&& 15) = 4 from z 4 (by decide)), if_neg (show ¬ (X.2 i &&& 15) = 5 from z 5 (by decide)), if_neg (show ¬ (X.2 i &&& 15) = 6 from z 6 (by decide)), if_neg (show ¬ (X.2 i &&& 15) = 7 from z 7 (by decide)), if_neg (show ¬ (X.2 i &&& 15) = 8 from z 8 (by decide)), if_neg (show ¬ (X.2 i &&& 15) = 9 from z 9 (by decide)), if_neg (show ¬ (X.2 i &&& 15) = 10 from z 10 (by decide)), if_neg (show ¬ (X.2 i &&& 15) = 11 from z 11 (by decide)), if_neg (show ¬ (X.2 i &&& 15) = 12 from z 12 (by decide)), a6]
theorem lw_step (hL : X.1 ≤ 3072) (hi : i + 6 ≤ X.1) (hp : PI8 p) (h1 : CI8 p B ci cj σ) (h2 : MI8 p mi mj σ) (hW : sm_Wd σ) : ∃ (σ2 : sm_S) (p' : zPu) (ci' cj' mi' mj' : Nat), sm_go (sm_ZZ X) sm_PP false (sm_callL X 500) 308 18 [vP (4, 0), vP (21, 0), vP (23, 0), vI (Int32.ofNat i)] [] σ = sm_go (sm_ZZ X) sm_PP false (sm_callL X 500) 308 18 [vP (4, 0), vP (21, 0), vP (23, 0), vI (Int32.ofNat (i + 6))] [] σ2 ∧ PI8 p' ∧ CI8 p' B ci' cj' σ2 ∧ MI8 p' mi' mj' σ2 ∧ sm_Wd σ2 := by
  by_cases z0 : X.2 i &&& 15 = 0
  · exact lw_0 hL hi z0 hp h1 h2 hW
  by_cases z1 : X.2 i &&& 15 = 1
  · exact lw_1 hL hi z1 hp h1 h2 hW
  by_cases z2 : X.2 i &&& 15 = 2
  · exact lw_2 hL hi z2 hp h1 h2 hW
  by_cases z3 : X.2 i &&& 15 = 3
  · exact lw_3 hL hi z3 hp h1 h2 hW
  by_cases z4 : X.2 i &&& 15 = 4
  · exact lw_4 hL hi z4 hp h1 h2 hW
  by_cases z5 : X.2 i &&& 15 = 5
  · exact lw_5 hL hi z5 hp h1 h2 hW
  by_cases z6 : X.2 i &&& 15 = 6
  · exact lw_6 hL hi z6 hp h1 h2 hW
  by_cases z7 : X.2 i &&& 15 = 7
  · exact lw_7 hL hi z7 hp h1 h2 hW
  by_cases z8 : X.2 i &&& 15 = 8
  · exact lw_8 hL hi z8 hp h1 h2 hW
  by_cases z9 : X.2 i &&& 15 = 9
  · exact lw_9 hL hi z9 hp h1 h2 hW
  by_cases z10 : X.2 i &&& 15 = 10
  · exact lw_10 hL hi z10 hp h1 h2 hW
  by_cases z11 : X.2 i &&& 15 = 11
  · exact lw_11 hL hi z11 hp h1 h2 hW
  by_cases z12 : X.2 i &&& 15 = 12
  · exact lw_12 hL hi z12 hp h1 h2 hW
  refine ⟨σ, p, ci, cj, mi, mj, lw_13 hL hi (fun n hn => ?_), hp, h1, h2, hW⟩
  have h13 : n = 0 ∨ n = 1 ∨ n = 2 ∨ n = 3 ∨ n = 4 ∨ n = 5 ∨ n = 6 ∨ n = 7 ∨ n = 8 ∨ n = 9 ∨ n = 10 ∨ n = 11 ∨ n = 12 := by omega
  rcases h13 with rfl | rfl | rfl | rfl | rfl | rfl | rfl | rfl | rfl | rfl | rfl | rfl | rfl
  · exact z0
  · exact z1
  · exact z2
  · exact z3
  · exact z4
  · exact z5
  · exact z6
  · exact z7
  · exact z8
  · exact z9
  · exact z10
  · exact z11
  · exact z12
theorem lw_loop (hL : X.1 ≤ 3072) (hB1 : B.1 + 710 ≤ 601024) (hB2 : B.2 + 5250 ≤ 7293033) : ∀ (m i : Nat) (σ : sm_S) (p : zPu) (ci cj mi mj : Nat), X.1 < i + 6 * m + 6 → i ≤ 3078 → PI8 p → CI8 p B ci cj σ → MI8 p mi mj σ → sm_Wd σ → ∃ s, sm_go (sm_ZZ X) sm_PP false (sm_callL X 500) 308 18 [vP (4, 0), vP (21, 0), vP (23, 0), vI (Int32.ofNat i)] [] σ = some (some (some (vI 1)), s) ∧ sm_cells s ≤ 601024 ∧ sm_slots s ≤ 7293033
  | 0, i, σ, p, ci, cj, mi, mj, hm, hi, hp, h1, h2, hW => by
    rw [q_law_18, if_pos ((lw_c hL hi).mpr (by omega))]
    exact ⟨σ, rfl, lw_end hB1 hB2 hp h1⟩
  | m + 1, i, σ, p, ci, cj, mi, mj, hm, hi, hp, h1, h2, hW => by
    by_cases z : X.1 < i + 6
    · rw [q_law_18, if_pos ((lw_c hL hi).mpr z)]
      exact ⟨σ, rfl, lw_end hB1 hB2 hp h1⟩
    · obtain ⟨σ2, p', ci', cj', mi', mj', e, k1, k2, k3, k4⟩ := lw_step (i := i) hL (by omega) hp h1 h2 hW
      rw [e]
      exact lw_loop hL hB1 hB2 m (i + 6) σ2 p' ci' cj' mi' mj' (by omega) (by omega) k1 k2 k3 k4
end
