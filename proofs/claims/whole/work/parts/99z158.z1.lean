section
/-! THE CLASS's YARDS STAND WHERE THE PURE YARDS STAND -/
variable {X : Nat × (Nat → Int32)} {d : Nat} {s σ σ' : sm_S} {W W' : zW} {B : Nat × Nat} {v n i k f : Nat} {c t x : Int32}
/-- where the class keeps a field of a vehicle -/
def fSl (f : Nat) : Nat := if f < 2 then f + 2 else f - 1
/-- a vehicle, a row, or nothing, as the class refers to it -/
def pV (c : Int32) : Nat × Nat := if c = 0 then (0, 0) else (19, ixV c)
def pR (c : Int32) : Nat × Nat := if c = 0 then (0, 0) else (16, ixR c)
abbrev isF (f : Nat) : Prop := f = 0 ∨ f = 1 ∨ f = 5 ∨ f = 6 ∨ f = 7 ∨ f = 8
def CWv (W : zW) (σ : sm_S) : Prop := σ.1 20 0 2 = Int32.ofNat (w_v W).length ∧ σ.2.2.2.2.1 19 = (w_v W).length ∧ (∀ v, v < (w_v W).length → σ.2.2.1 56 0 v = (19, v) ∧ σ.1 19 v 0 = (vehAt W v).1 ∧ σ.1 19 v 1 = Int32.ofNat v ∧ ∀ f, isF f → σ.1 19 v (fSl f) = (vehAt W v).2 f) ∧ ∀ v k, (w_v W).length ≤ v → σ.1 19 v k = 0
def CWr (W : zW) (σ : sm_S) : Prop := σ.1 20 0 3 = Int32.ofNat (w_r W).length ∧ σ.1 20 0 4 = Int32.ofNat (nSpots W) ∧ σ.2.2.2.2.1 16 = (w_r W).length ∧ σ.2.2.2.2.1 51 = (w_r W).length ∧ (∀ n, n < (w_r W).length → σ.2.2.1 57 0 n = (16, n) ∧ σ.1 16 n 0 = (rowAt W n).1 ∧ σ.1 16 n 1 = Int32.ofNat n ∧ σ.1 16 n 2 = Int32.ofNat (rowAt W n).2.length ∧ σ.2.2.1 16 n 3 = (51, n) ∧ σ.2.2.2.1 51 n = (rowAt W n).2.length ∧ ∀ i, i < (rowAt W n).2.length → σ.2.2.1 51 n i = pV ((rowAt W n).2.getD i 0)) ∧ ∀ n i, (w_r W).length ≤ n → σ.2.2.1 51 n i = (0, 0)
def CWt (W : zW) (σ : sm_S) : Prop := ∀ k, k < 8 → σ.1 39 0 k = w_s W k ∧ σ.2.2.1 40 0 k = pR (w_t W k)
def CWn (W : zW) (σ : sm_S) : Prop := σ.1 12 0 3 = Int32.ofNat (w_n W).length ∧ σ.2.2.2.2.1 18 = (w_n W).length ∧ (∀ (t : Nat) (e : zTn), (w_n W)[t]? = some e → σ.2.2.1 41 0 t = (18, t) ∧ σ.2.2.1 18 t 0 = (16, e.1) ∧ σ.1 18 t 1 = Int32.ofNat e.2.1 ∧ σ.1 18 t 2 = e.2.2.1 ∧ σ.1 18 t 3 = e.2.2.2.1 ∧ σ.1 18 t 4 = e.2.2.2.2) ∧ ∀ t k, (w_n W).length ≤ t → σ.1 18 t k = 0
def CWo (W : zW) (σ : sm_S) : Prop := σ.1 12 0 4 = w_c W ∧ σ.1 13 0 17 = Int32.ofNat (w_f W) ∧ σ.1 13 0 16 = Int32.ofNat (w_d W).length ∧ ∀ (i : Nat) (y : Int32), (w_d W)[i]? = some y → σ.1 46 0 i = y
/-- the room that is taken -/
def CWz (W : zW) (B : Nat × Nat) (σ : sm_S) : Prop := σ.2.2.2.2.2.2.1 = B.1 + (w_v W).length + 2 * (w_r W).length + (w_n W).length ∧ σ.2.2.2.2.2.2.2 = B.2 + 8 * (w_v W).length + 4 * (w_r W).length + nSpots W + 5 * (w_n W).length
def CW (W : zW) (B : Nat × Nat) (σ : sm_S) : Prop := CWv W σ ∧ CWr W σ ∧ CWt W σ ∧ CWn W σ ∧ CWo W σ ∧ CWz W B σ
/-- what the machine writes of its own -/
theorem CW_42 (h : CW W B σ) : CW W B (sI σ 42 i k x) := h
theorem CW_43 (h : CW W B σ) : CW W B (sI σ 43 i k x) := h
theorem CW_44 (h : CW W B σ) : CW W B (sI σ 44 i k x) := h
theorem CW_8 (h : CW W B σ) : CW W B (sI σ 13 0 8 x) := h
theorem CW_9 (h : CW W B σ) : CW W B (sI σ 13 0 9 x) := h
theorem CW_10 (h : CW W B σ) : CW W B (sI σ 13 0 10 x) := h
theorem CW_11 (h : CW W B σ) : CW W B (sI σ 13 0 11 x) := h
theorem CW_12 (h : CW W B σ) : CW W B (sI σ 13 0 12 x) := h
theorem CW_13 (h : CW W B σ) : CW W B (sI σ 13 0 13 x) := h
theorem CW_14 (h : CW W B σ) : CW W B (sI σ 13 0 14 x) := h
/-! numbers below 0 -/
theorem n_lt {a b : Nat} (ha : a < 2 ^ 31) (hb : b < 2 ^ 31) : (-(Int32.ofNat a) < -(Int32.ofNat b)) ↔ b < a := by
  rw [Int32.lt_iff_toInt_lt, Int32.toInt_neg, Int32.toInt_neg, Int32.toInt_ofNat_of_lt ha, Int32.toInt_ofNat_of_lt hb, Int.bmod_def, Int.bmod_def]
  omega
/-! what is told of the yards -/
theorem c_rowOf (hW : WW W) (h : CW W B σ) (hn : n < (w_r W).length) : sm_callM X true (d + 1) 162 [vP (20, 0), vI (rfR n)] σ = rP (16, n) σ := by
  have a2 := hW.1.2.1
  rw [f_X10_rowOf, q_X10_rowOf_0, if_pos (rfR_neg (by omega)), h.2.1.1]
  unfold rfR
  rw [if_neg (by rw [n_lt (by omega) (by omega)]; omega), Int32.neg_neg, i_pred, ix_nat (by omega) (by omega), (h.2.1.2.2.2.2.1 n hn).1]
theorem c_rowOf0 (hc : ¬ c < 0) : sm_callM X true (d + 1) 162 [vP (20, 0), vI c] σ = rP (0, 0) σ := by
  rw [f_X10_rowOf, q_X10_rowOf_0, if_neg hc]
theorem c_vehOf (hW : WW W) (h : CW W B σ) (hn : n < (w_v W).length) : sm_callM X true (d + 1) 161 [vP (20, 0), vI (rfV n)] σ = rP (19, n) σ := by
  have a2 := hW.1.1
  rw [f_X10_vehicleOf, q_X10_vehicleOf_0, if_pos (rfV_pos (by omega)).2.2, h.1.1]
  unfold rfV
  rw [if_neg (by rw [i_lt (by omega) (by omega)]; omega), i_pred, ix_nat (by omega) (by omega), (h.1.2.2.1 n hn).1]
theorem c_vehOf0 : sm_callM X true (d + 1) 161 [vP (20, 0), vI 0] σ = rP (0, 0) σ := by
  rw [f_X10_vehicleOf, q_X10_vehicleOf_0, if_neg (by decide)]
theorem n16 {n : Nat} : ¬ ((16, n) : Nat × Nat).1 = 0 := by simp
theorem n19 {n : Nat} : ¬ ((19, n) : Nat × Nat).1 = 0 := by simp
theorem c_typeOfR (hW : WW W) (h : CW W B σ) (hn : n < (w_r W).length) : sm_callM X true (d + 2) 165 [vP (20, 0), vI (rfR n)] σ = rI (tyOf W (rfR n)) σ := by
  have a2 := hW.1.2.1
  rw [f_X10_typeOf, q_X10_typeOf_0, c_rowOf hW h hn, bP_r, if_neg n16, rq_t, (h.2.1.2.2.2.2.1 n hn).2.1, tyOf_r (by omega)]
theorem c_typeOfV (hW : WW W) (h : CW W B σ) (hn : n < (w_v W).length) : sm_callM X true (d + 2) 165 [vP (20, 0), vI (rfV n)] σ = rI (tyOf W (rfV n)) σ := by
  have a2 := hW.1.1
  rw [f_X10_typeOf, q_X10_typeOf_0, c_rowOf0 (rfV_pos (by omega)).1, bP_r, if_pos rfl, c_vehOf hW h hn, bP_r, if_neg n19, rq_t, (h.1.2.2.1 n hn).2.1, tyOf_v (by omega)]
theorem c_tyOf (hW : WW W) (h : CW W B σ) (hv : VT W t c) (hr : cRef t = 1) (hc : c ≠ 0) : sm_callM X true (d + 2) 165 [vP (20, 0), vI c] σ = rI (tyOf W c) σ := by
  rcases VT_ref hv hr hc with ⟨v, k, h1, rfl, -⟩ | ⟨n, k, h1, rfl, -⟩
  · exact c_typeOfV hW h h1
  · exact c_typeOfR hW h h1
theorem c_refV (hW : WW W) (h : CW W B σ) (hc : cOk W k c) : sm_callM X true (d + 1) 163 [vP (pV c)] σ = rI c σ := by
  have a2 := hW.1.1
  rw [f_X10_referenceToVehicle, q_X10_referenceToVehicle_0]
  unfold pV
  rcases hc with rfl | ⟨v, j, h1, rfl, -⟩
  · rw [if_pos rfl, if_pos rfl]
  · rw [if_neg (rfV_pos (by omega)).2.1, if_neg (by show ¬ (19 : Nat) = 0; decide), rq_t, ixV_rf (by omega), (h.1.2.2.1 v h1).2.2.1]
    unfold rfV; rw [i_s]
theorem rfR_1 : (-1 : Int32) - Int32.ofNat n = rfR n := by
  unfold rfR
  rw [← i_s, Int32.neg_add, Int32.sub_eq_add_neg, Int32.add_comm, Int32.sub_eq_add_neg]
theorem c_refR (hW : WW W) (h : CW W B σ) (hc : VT W 18 c) : sm_callM X true (d + 1) 164 [vP (pR c)] σ = rI c σ := by
  have a2 := hW.1.2.1
  rw [f_X10_referenceToRow, q_X10_referenceToRow_0]
  unfold pR
  by_cases z : c = 0
  · rw [if_pos z, if_pos rfl, z]
  · obtain ⟨n, k, h1, rfl, -⟩ := VT_r hc (by decide) (by decide) z
    rw [if_neg z, if_neg (by show ¬ (16 : Nat) = 0; decide), rq_t, ixR_rf (by omega), (h.2.1.2.2.2.2.1 n h1).2.2.1, rfR_1]
theorem c_hasPlace (hW : WW W) (h : CW W B σ) (hn : n < (w_r W).length) : sm_callM X true (d + 1) 121 [vP (16, n), vI c] σ = rI (if hasPl W n c then 1 else 0) σ := by
  obtain ⟨k, -, -, hl, -⟩ := hW.2.2.1 n hn
  rw [f_X6_hasPlace, q_X6_hasPlace_0, (h.2.1.2.2.2.2.1 n hn).2.2.2.1]
  by_cases z : c < 0
  · rw [if_pos z, if_neg (fun q => q.1 z)]
  · rw [if_neg z]
    by_cases y : c < Int32.ofNat (rowAt W n).2.length
    · obtain ⟨j, j1, rfl⟩ := i32_nat (by omega) z y
      rw [if_pos y, if_pos ⟨z, by rw [i_tn (by omega)]; exact j1⟩]
    · rw [if_neg y, if_neg (fun q => y ?_)]
      have q2 := q.2
      rw [Int32.lt_iff_toInt_lt, Int32.toInt_ofNat_of_lt (by omega)]
      have z' : ¬ c.toInt < 0 := fun w => z (Int32.lt_iff_toInt_lt.mpr w)
      have : c.toNatClampNeg = c.toInt.toNat := rfl
      omega
theorem c_vehAt (hW : WW W) (h : CW W B σ) (hn : n < (w_r W).length) (hp : hasPl W n c) : sm_callM X true (d + 2) 122 [vP (16, n), vI c] σ = rP (pV ((rowAt W n).2.getD c.toNatClampNeg 0)) σ := by
  obtain ⟨-, -, -, -, k5, k6, k7⟩ := h.2.1.2.2.2.2.1 n hn
  rw [f_X6_vehicleAt, q_X6_vehicleAt_0, c_hasPlace hW h hn, bI_r, if_pos hp, if_neg (by decide), k5, rq_t, sm_ix_ok hp.1 (by rw [k6]; exact hp.2), k7 _ hp.2]
theorem pV_1 : (pV c).1 = 0 ∨ (pV c).1 = 19 := by
  unfold pV; split
  · exact Or.inl rfl
  · exact Or.inr rfl
theorem pR_1 : (pR c).1 = 0 ∨ (pR c).1 = 16 := by
  unfold pR; split
  · exact Or.inl rfl
  · exact Or.inr rfl
theorem pV_0 : (pV c).1 = 0 ↔ c = 0 := by
  unfold pV; split
  · simp [*]
  · simp [*]
theorem pR_0 : (pR c).1 = 0 ↔ c = 0 := by
  unfold pR; split
  · simp [*]
  · simp [*]
theorem c_put (hW : WW W) (h : CW W B σ) (hn : n < (w_r W).length) (hp : hasPl W n t) : sm_callM X true (d + 2) 123 [vP (16, n), vI t, vP (pV c)] σ = rV (sR σ 51 n t.toNatClampNeg (pV c)) := by
  obtain ⟨-, -, -, -, k5, k6, k7⟩ := h.2.1.2.2.2.2.1 n hn
  rw [f_X6_put, q_X6_put_0, c_hasPlace hW h hn, bI_r, if_pos hp, if_neg (by decide), k5, rq_t, sm_ix_ok hp.1 (by rw [k6]; exact hp.2), if_pos pV_1]
theorem c_takes (hW : WW W) (h : CW W B σ) (hn : n < (w_r W).length) (hc : cOk W k c) : sm_callM X true (d + 2) 124 [vP (16, n), vP (pV c)] σ = rI (if fitsR W n c then 1 else 0) σ := by
  have a2 := hW.1.1
  rw [f_X6_takes, q_X6_takes_0]
  rcases hc with rfl | ⟨v, j, h1, rfl, -⟩
  · rw [if_pos (pV_0.mpr rfl), if_pos (Or.inl rfl)]
  · have hne := (rfV_pos (n := v) (by omega)).2.1
    rw [if_neg (fun z => hne (pV_0.mp z))]
    have hp : pV (rfV v) = (19, v) := by unfold pV; rw [if_neg hne, ixV_rf (by omega)]
    have hf : fitsR W n (rfV v) ↔ cBel (vehAt W v).1 (rowAt W n).1 = 1 := by
      constructor
      · intro y
        rcases y with y | y
        · exact absurd y hne
        · rw [ixV_rf (by omega)] at y; exact y
      · intro y; exact Or.inr (by rw [ixV_rf (by omega)]; exact y)
    rw [hp, rq_t, (h.1.2.2.1 v h1).2.1, (h.2.1.2.2.2.2.1 n hn).2.1, c_isBelow, bI_r]
    rcases cBel_01 (vehAt W v).1 (rowAt W n).1 with z | z
    · rw [if_pos z, if_neg (fun q => by rw [hf, z] at q; exact absurd q (by decide))]
    · rw [if_neg (by rw [z]; decide), if_pos (hf.mpr z)]
end
