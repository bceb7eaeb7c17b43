section
/-! THE CLASS's VEHICLES: fields, sums -/
variable {X : Nat × (Nat → Int32)} {d : Nat} {s σ σ' : sm_S} {W W' : zW} {B : Nat × Nat} {v n i k f : Nat} {c t x : Int32}
/-- the row of a vehicle in the class -/
theorem cv_f (h : CW W B σ) (hv : v < (w_v W).length) : σ.1 19 v 0 = (vehAt W v).1 ∧ σ.1 19 v 2 = (vehAt W v).2 0 ∧ σ.1 19 v 3 = (vehAt W v).2 1 ∧ σ.1 19 v 4 = (vehAt W v).2 5 ∧ σ.1 19 v 5 = (vehAt W v).2 6 ∧ σ.1 19 v 6 = (vehAt W v).2 7 ∧ σ.1 19 v 7 = (vehAt W v).2 8 := by
  obtain ⟨-, h2, -, h4⟩ := h.1.2.2.1 v hv
  exact ⟨h2, h4 0 (by decide), h4 1 (by decide), h4 5 (by decide), h4 6 (by decide), h4 7 (by decide), h4 8 (by decide)⟩
theorem c_mass (hW : WW W) (h : CW W B σ) (hv : v < (w_v W).length) : sm_callM X true (d + 1) 153 [vP (19, v)] σ = rI (vMass (vehAt W v)) σ := by
  obtain ⟨h0, -, -, h4, h5, h6, h7⟩ := cv_f h hv
  obtain ⟨⟨k, k1, k2, -⟩, -⟩ := hW.2.1 v hv
  rw [f_X9_mass, q_X9_mass_0, h0, h4, h5, h6, h7, k2]
  unfold vMass
  rw [k2]
  have hk : k = 0 ∨ k = 1 ∨ k = 2 ∨ k = 3 ∨ k = 4 ∨ k = 5 ∨ k = 6 ∨ k = 7 ∨ k = 8 ∨ k = 9 ∨ k = 10 ∨ k = 11 ∨ k = 12 := by omega
  rcases hk with rfl | rfl | rfl | rfl | rfl | rfl | rfl | rfl | rfl | rfl | rfl | rfl | rfl
  · rfl
  · rfl
  · rfl
  · rfl
  · rfl
  · rfl
  · rfl
  · rfl
  · rfl
  · show rI (45 + (vehAt W v).2 8 / 2 - 20) σ = rI (25 + (vehAt W v).2 8 / 2) σ
    generalize (vehAt W v).2 8 / 2 = y
    rw [Int32.sub_eq_add_neg, Int32.add_comm 45 y, Int32.add_assoc, Int32.add_comm 25 y]
    rfl
  · show rI (15 + (vehAt W v).2 5 + (vehAt W v).2 8 + 3) σ = rI (18 + (vehAt W v).2 5 + (vehAt W v).2 8) σ
    generalize (vehAt W v).2 5 = y
    generalize (vehAt W v).2 8 = z
    have : (15 : Int32) + y + z + 3 = 18 + y + z := by
      rw [show (18 : Int32) = 15 + 3 from rfl]
      ac_rfl
    rw [this]
  · show (if (vehAt W v).2 6 < 0 then rI (15 + 2 * (vehAt W v).2 5 + 1) σ else rI (15 + 2 * (vehAt W v).2 5 + 0) σ) = rI (15 + 2 * (vehAt W v).2 5 + (if (vehAt W v).2 6 < 0 then 1 else 0)) σ
    split <;> rfl
  · rfl
theorem c_grip (hW : WW W) (h : CW W B σ) (hv : v < (w_v W).length) : sm_callM X true (d + 1) 154 [vP (19, v)] σ = rI (vGrip (vehAt W v)) σ := by
  obtain ⟨h0, -⟩ := cv_f h hv
  obtain ⟨⟨k, k1, k2, -⟩, -⟩ := hW.2.1 v hv
  rw [f_X9_grip, q_X9_grip_0, h0, k2]
  unfold vGrip
  rw [k2]
  have hk : k = 0 ∨ k = 1 ∨ k = 2 ∨ k = 3 ∨ k = 4 ∨ k = 5 ∨ k = 6 ∨ k = 7 ∨ k = 8 ∨ k = 9 ∨ k = 10 ∨ k = 11 ∨ k = 12 := by omega
  rcases hk with rfl | rfl | rfl | rfl | rfl | rfl | rfl | rfl | rfl | rfl | rfl | rfl | rfl <;> rfl
theorem c_pull (hW : WW W) (h : CW W B σ) (hv : v < (w_v W).length) : sm_callM X true (d + 1) 155 [vP (19, v)] σ = rI (vPull (vehAt W v)) σ := by
  obtain ⟨h0, -, -, -, -, -, h7⟩ := cv_f h hv
  obtain ⟨⟨k, k1, k2, -⟩, -⟩ := hW.2.1 v hv
  rw [f_X9_pull, q_X9_pull_0, h0, h7, k2]
  unfold vPull
  rw [k2]
  have hk : k = 0 ∨ k = 1 ∨ k = 2 ∨ k = 3 ∨ k = 4 ∨ k = 5 ∨ k = 6 ∨ k = 7 ∨ k = 8 ∨ k = 9 ∨ k = 10 ∨ k = 11 ∨ k = 12 := by omega
  rcases hk with rfl | rfl | rfl | rfl | rfl | rfl | rfl | rfl | rfl | rfl | rfl | rfl | rfl <;> rfl
theorem c_field (hW : WW W) (h : CW W B σ) (hv : v < (w_v W).length) (hf : f < 9) : sm_callM X true (d + 2) 149 [vP (19, v), vI (Int32.ofNat f)] σ = rI (vFld (vehAt W v) f) σ := by
  obtain ⟨h0, h2, h3, h4, h5, h6, h7⟩ := cv_f h hv
  rw [f_X9_field, q_X9_field_0]
  have hk : f = 0 ∨ f = 1 ∨ f = 2 ∨ f = 3 ∨ f = 4 ∨ f = 5 ∨ f = 6 ∨ f = 7 ∨ f = 8 := by omega
  rcases hk with rfl | rfl | rfl | rfl | rfl | rfl | rfl | rfl | rfl
  · show rI (σ.1 19 v 2) σ = _; rw [h2]; rfl
  · show rI (σ.1 19 v 3) σ = _; rw [h3]; rfl
  · show sm_bI (sm_callM X true (d + 1) 153 [vP (19, v)] σ) sm_tw (fun y1 s2 => rI y1 s2) = _
    rw [c_mass hW h hv]; rfl
  · show sm_bI (sm_callM X true (d + 1) 154 [vP (19, v)] σ) sm_tw (fun y1 s2 => rI y1 s2) = _
    rw [c_grip hW h hv]; rfl
  · show sm_bI (sm_callM X true (d + 1) 155 [vP (19, v)] σ) sm_tw (fun y1 s2 => rI y1 s2) = _
    rw [c_pull hW h hv]; rfl
  · show rI (σ.1 19 v 4) σ = _; rw [h4]; rfl
  · show rI (σ.1 19 v 5) σ = _; rw [h5]; rfl
  · show rI (σ.1 19 v 6) σ = _; rw [h6]; rfl
  · show rI (σ.1 19 v 7) σ = _; rw [h7]; rfl
theorem c_setField (hf : isF f) : sm_callM X true (d + 1) 150 [vP (19, v), vI (Int32.ofNat f), vI x] σ = rV (sI σ 19 v (fSl f) x) := by
  rw [f_X9_setField, q_X9_setField_0]
  rcases hf with rfl | rfl | rfl | rfl | rfl | rfl <;> rfl
theorem fSl_inj {g : Nat} (hf : isF f) (hg : isF g) (h : fSl f = fSl g) : f = g := by
  unfold fSl at h
  rcases hf with rfl | rfl | rfl | rfl | rfl | rfl <;> rcases hg with rfl | rfl | rfl | rfl | rfl | rfl <;> simp at h ⊢
theorem fSl_2 (hf : isF f) : 2 ≤ fSl f := by
  unfold fSl
  rcases hf with rfl | rfl | rfl | rfl | rfl | rfl <;> simp
theorem CW_setV (h : CW W B σ) (hv : v < (w_v W).length) (hf : isF f) : CW (setV W v f x) B (sI σ 19 v (fSl f) x) := by
  obtain ⟨⟨a1, a2, a3, a4⟩, b, c, d, e, z⟩ := h
  have hl : (w_v (setV W v f x)).length = (w_v W).length := List.length_modify _ _ _
  refine ⟨⟨by rw [hl]; exact a1, by rw [hl]; exact a2, fun u hu => ?_, fun u k hu => ?_⟩, b, c, d, e, by unfold CWz; rw [hl]; exact z⟩
  · rw [hl] at hu
    obtain ⟨k1, k2, k3, k4⟩ := a3 u hu
    have h2 := fSl_2 hf
    rw [vehAt_set]
    refine ⟨k1, ?_, ?_, fun g hg => ?_⟩
    · rw [gI, if_neg (by omega), k2]; split <;> rfl
    · rw [gI, if_neg (by omega)]; exact k3
    · by_cases q : v = u
      · subst q
        rw [if_pos ⟨rfl, hv⟩]
        show _ = fset (vehAt W v).2 f x g
        unfold fset
        by_cases y : g = f
        · subst y; rw [gI, if_pos ⟨rfl, rfl, rfl⟩, if_pos rfl]
        · rw [gI, if_neg (fun w => y (fSl_inj hg hf w.2.2)), if_neg y]; exact k4 g hg
      · rw [if_neg (fun w => q w.1), gI, if_neg (fun w => q w.2.1.symm)]; exact k4 g hg
  · rw [hl] at hu
    rw [gI, if_neg (by omega)]; exact a4 u k hu
theorem CW_setR (h : CW W B σ) (hn : n < (w_r W).length) : CW (setR W n i c) B (sR σ 51 n i (pV c)) := by
  obtain ⟨a, ⟨b1, b2, b3, b4, b5, b6⟩, c', d, e, z⟩ := h
  have hl : (w_r (setR W n i c)).length = (w_r W).length := List.length_modify _ _ _
  refine ⟨a, ⟨by rw [hl]; exact b1, by rw [nSpots_set]; exact b2, by rw [hl]; exact b3, by rw [hl]; exact b4, fun m hm => ?_, fun m j hm => ?_⟩, c', d, e, by unfold CWz; rw [hl, nSpots_set]; exact z⟩
  · rw [hl] at hm
    obtain ⟨k1, k2, k3, k4, k5, k6, k7⟩ := b5 m hm
    rw [rowAt_set]
    by_cases q : n = m ∧ m < (w_r W).length
    · rw [if_pos q]
      obtain ⟨rfl, -⟩ := q
      refine ⟨k1, k2, k3, ?_, k5, ?_, fun j hj => ?_⟩
      · show _ = Int32.ofNat ((rowAt W n).2.set i c).length; rw [List.length_set]; exact k4
      · show _ = ((rowAt W n).2.set i c).length; rw [List.length_set]; exact k6
      · have hj2 : j < (rowAt W n).2.length := by
          have h0 : j < ((rowAt W n).2.set i c).length := hj
          rw [List.length_set] at h0; exact h0
        show _ = pV (((rowAt W n).2.set i c).getD j 0)
        by_cases y : j = i
        · subst y
          rw [gR, if_pos ⟨rfl, rfl, rfl⟩, List.getD_eq_getElem?_getD, List.getElem?_set_self hj2]; rfl
        · rw [gR, if_neg (fun w => y w.2.2), List.getD_eq_getElem?_getD, List.getElem?_set_ne (fun w => y w.symm), ← List.getD_eq_getElem?_getD]; exact k7 j hj2
    · rw [if_neg q]
      refine ⟨k1, k2, k3, k4, k5, k6, fun j hj => ?_⟩
      rw [gR, if_neg (fun w => q ⟨w.2.1.symm, hm⟩)]; exact k7 j hj
  · rw [hl] at hm
    rw [gR, if_neg (by omega)]; exact b6 m j hm
/-! sums over a row -/
def sumF (W : zW) (f : Nat) : List Int32 → Int32 → Int32
  | [], a => a
  | c :: r, a => sumF W f r (if c = 0 then a else a + vFld (vehAt W (ixV c)) f)
theorem getD_drop {l : List Int32} (h : i < l.length) : l.drop i = l.getD i 0 :: l.drop (i + 1) := by
  rw [List.drop_eq_getElem_cons h, List.getD_eq_getElem?_getD, List.getElem?_eq_getElem h]; rfl
theorem cell_ok (hW : WW W) (hn : n < (w_r W).length) (hi : i < (rowAt W n).2.length) (h0 : (rowAt W n).2.getD i 0 ≠ 0) : ∃ v, v < (w_v W).length ∧ (rowAt W n).2.getD i 0 = rfV v ∧ ixV (rfV v) = v ∧ pV ((rowAt W n).2.getD i 0) = (19, v) := by
  obtain ⟨k, -, -, -, hc⟩ := hW.2.2.1 n hn
  have a1 := hW.1.1
  rcases hc _ (getD_mem h0) with z | ⟨v, j, h1, h2, -⟩
  · exact absurd z h0
  · refine ⟨v, h1, h2, ixV_rf (by omega), ?_⟩
    unfold pV
    rw [if_neg h0, h2, ixV_rf (by omega)]
theorem c_sum_go (hW : WW W) (h : CW W B σ) (hn : n < (w_r W).length) (hf : f < 9) : ∀ (m i : Nat) (a : Int32) (d4 : sm_V), i + m = (rowAt W n).2.length → sm_go (sm_ZZ X) sm_PP true (sm_callM X true (d + 2)) 127 4 [vP (16, n), vI (Int32.ofNat f), vI a, vI (Int32.ofNat i), d4] [] σ = rI (sumF W f ((rowAt W n).2.drop i) a) σ
  | 0, i, a, d4, hi => by
    obtain ⟨k, -, -, hl, -⟩ := hW.2.2.1 n hn
    rw [q_X6_sum_4, (h.2.1.2.2.2.2.1 n hn).2.2.2.1, if_neg (by rw [i_lt (by omega) (by omega)]; omega), List.drop_of_length_le (by omega)]
    rfl
  | m + 1, i, a, d4, hi => by
    obtain ⟨k, -, -, hl, -⟩ := hW.2.2.1 n hn
    obtain ⟨-, -, -, k4, k5, k6, k7⟩ := h.2.1.2.2.2.2.1 n hn
    rw [q_X6_sum_4, k4, if_pos (by rw [i_lt (by omega) (by omega)]; omega), k5, rq_t, ix_nat (by rw [k6]; omega) (by rw [k6]; omega), k7 i (by omega), getD_drop (by omega), i_s]
    by_cases z : (rowAt W n).2.getD i 0 = 0
    · rw [if_pos (pV_0.mpr z), c_sum_go hW h hn hf m (i + 1) a _ (by omega)]
      show _ = rI (sumF W f _ (if _ = 0 then a else _)) σ
      rw [if_pos z]
    · obtain ⟨v, v1, v2, v3, v4⟩ := cell_ok hW hn (by omega) z
      rw [if_neg (fun q => z (pV_0.mp q)), v4, if_pos rfl, c_field hW h v1 hf, bI_r, c_sum_go hW h hn hf m (i + 1) _ _ (by omega)]
      show _ = rI (sumF W f _ (if _ = 0 then a else _)) σ
      rw [if_neg z, v2, v3]
theorem c_sum (hW : WW W) (h : CW W B σ) (hn : n < (w_r W).length) (hf : f < 9) : sm_callM X true (d + 3) 127 [vP (16, n), vI (Int32.ofNat f)] σ = rI (sumF W f (rowAt W n).2 0) σ := by
  rw [f_X6_sum, q_X6_sum_0]
  exact c_sum_go hW h hn hf _ 0 0 _ (Nat.zero_add _)
end
