section
/-! THE START: both sides stand together behind the makers; THE GOAL -/
variable {X : Nat × (Nat → Int32)}
theorem wd_ok : (List.range 24).all (fun t => (List.range (sm_fk t).length).all (fun k => (List.range (sm_cnt Ps t)).all (fun i => Nat.ble t 9 || (Nat.ble ((sm_fk t).getD k 0) 9 || (Ps.2.2.1 t i k == ((sm_fk t).getD k 0, i) && Nat.blt i (sm_cnt Ps ((sm_fk t).getD k 0))))))) = true := by decide +kernel
theorem wd_0 : sm_Wd Ps := fun t i k kd ht hk hkd hi => by
  by_cases z : t < 24
  · have hkl := (List.getElem?_eq_some_iff.mp hk).1
    have e : (sm_fk t).getD k 0 = kd := by rw [List.getD_eq_getElem?_getD, hk]; rfl
    have h := List.all_eq_true.mp (List.all_eq_true.mp (List.all_eq_true.mp wd_ok t (List.mem_range.mpr z)) k (List.mem_range.mpr hkl)) i (List.mem_range.mpr hi)
    rw [ble_f (show ¬ t ≤ 9 by omega), e, ble_f (show ¬ kd ≤ 9 by omega), Bool.false_or, Bool.false_or, Bool.and_eq_true, beq_iff_eq] at h
    exact ⟨h.1, Nat.le_of_ble_eq_true h.2⟩
  · rw [sm_fk_big (by omega)] at hk; cases hk
def W0 : zW := ([], [], fun _ => 0, fun _ => 0, [], 0, 0, [])
def p00 : zPu := (fun _ => 0, 0, ([], [], []), W0, none, 0, -1)
theorem PI8_0 : PI8 p00 := by
  refine ⟨⟨⟨by decide, by decide, by decide, by decide, by decide, by decide⟩, fun v hv => absurd hv (Nat.not_lt_zero v), fun n hn => absurd hn (Nat.not_lt_zero n), fun k _ => ⟨⟨0, by decide, rfl⟩, Or.inr (Or.inr (Or.inl rfl))⟩, fun e he => by cases he⟩, WTx_0, fun j => ?_, Nat.zero_le _⟩
  show (-128 : Int32) ≤ 0 ∧ (0 : Int32) ≤ 127
  decide
theorem F5_ok : ∀ ci, ci < 2 → ∀ i, i < 5 → Ps.1 36 ci i = Int32.ofNat (fivP i).length ∧ Ps.1 38 ci i = fivG i ∧ ∀ j, j < (fivP i).length → Ps.1 37 ci (i * 4 + j) = (fivP i).getD j 0 := by decide +kernel
theorem F5_0 {ci : Nat} (h : ci < 2) : F5 ci Ps := fun i hi => by
  obtain ⟨h1, h2, h3⟩ := F5_ok ci h i hi
  refine ⟨h1, h2, fun j t hj => ?_⟩
  have hl := (List.getElem?_eq_some_iff.mp hj).1
  rw [h3 j hl, List.getD_eq_getElem?_getD, hj]; rfl
theorem P4_ok : ∀ ci, ci < 2 → ∀ p, p < 17 → (Ps.1 36 ci p).toNatClampNeg ≤ 4 ∧ Ps.1 36 ci p = Int32.ofNat (Ps.1 36 ci p).toNatClampNeg := by decide +kernel
theorem P4_0 {ci : Nat} (h : ci < 2) : P4 ci Ps := fun p hp => ⟨_, (P4_ok ci h p hp).1, (P4_ok ci h p hp).2⟩
set_option maxRecDepth 100000 in
theorem CRd_0 : CRd ([], [], []) 1 0 Ps := by
  refine ⟨⟨⟨rfl, fun k e hk => (by cases hk), rfl, fun j t hj => (by cases hj), rfl, rfl, ⟨fun e he => (by cases he), fun t ht => (by cases ht), fun k hk => (by cases hk)⟩⟩, rfl, Nat.zero_le _, fun i q hi => (by cases hi)⟩, F5_0 (by decide), F5_0 (by decide), P4_0 (by decide), P4_0 (by decide), ⟨⟨0, by decide, rfl⟩, ⟨0, by decide, rfl⟩, fun i _ => ⟨0, by decide, rfl⟩⟩, rfl, rfl, by decide⟩
noncomputable def B00 : Nat × Nat := (Ps.2.2.2.2.2.2.1, Ps.2.2.2.2.2.2.2)
set_option maxRecDepth 100000 in
theorem CW_0 : CW W0 B00 Ps := by
  refine ⟨⟨rfl, rfl, fun v hv => absurd hv (Nat.not_lt_zero v), fun v k _ => rfl⟩, ⟨rfl, rfl, rfl, rfl, fun n hn => absurd hn (Nat.not_lt_zero n), fun n i _ => rfl⟩, fun k _ => ⟨rfl, rfl⟩, ⟨rfl, rfl, fun t e he => (by cases he), fun t k _ => rfl⟩, ⟨rfl, rfl, rfl, fun i y hi => (by cases hi)⟩, rfl, rfl⟩
set_option maxRecDepth 100000 in
theorem CI8_0 : CI8 p00 B00 1 0 Ps := ⟨CRd_0, CW_0, rfl, rfl, fun _ => rfl, rfl, rfl⟩
set_option maxRecDepth 100000 in
theorem MW_0 : MW W0 Ps := by
  refine ⟨⟨rfl, fun v hv => absurd hv (Nat.not_lt_zero v), fun j _ => rfl⟩, ⟨rfl, rfl, fun n hn => absurd hn (Nat.not_lt_zero n), fun j _ => rfl⟩, fun k _ => ⟨rfl, rfl⟩, ⟨rfl, fun t e he => (by cases he)⟩, rfl, rfl, rfl, fun i y hi => (by cases hi)⟩
set_option maxRecDepth 100000 in
theorem MRd_0 : MRd ([], [], []) 1 0 Ps := ⟨⟨⟨rfl, fun k e hk => (by cases hk), fun e he => (by cases he)⟩, rfl, Nat.zero_le _, fun i q hi => (by cases hi)⟩, rfl, rfl, by decide⟩
set_option maxRecDepth 100000 in
theorem MI8_0 : MI8 p00 1 0 Ps := ⟨MRd_0, MW_0, rfl, rfl, fun _ => rfl, rfl, rfl⟩
set_option maxRecDepth 100000 in
theorem room_c : B00.1 + 710 ≤ 601024 := by decide +kernel
set_option maxRecDepth 100000 in
theorem room_s : B00.2 + 5250 ≤ 7293033 := by decide +kernel
theorem goal_X (X : Nat × (Nat → Int32)) (hL : X.1 ≤ 3072) : sm_GOAL X := by
  obtain ⟨s, e, c1, c2⟩ := lw_loop (X := X) hL room_c room_s 513 0 Ps p00 1 0 1 0 (by omega) (by omega) PI8_0 CI8_0 MI8_0 wd_0
  exact ⟨500, s, by decide, (st_law (X := X) (d := 497)).trans e, c1, c2⟩
end
