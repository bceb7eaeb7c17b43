section
/-! THE STATE BEHIND THE MAKERS -/
variable {X : Nat × (Nat → Int32)} {d : Nat} {s : sm_S}
theorem bV_c {r : sm_R} {h : sm_S → sm_R} {k : sm_S → sm_R} {t : sm_S} (e : r = some (some none, t)) : sm_bV r h k = k t := by rw [e]; rfl
noncomputable def Ps0 : sm_S := sN sm_0 21 7 0
noncomputable def Ps1 : sm_S := sN Ps0 17 8 0
noncomputable def Ps2 : sm_S := sR (sN (sR (sN (sR (sN (sR (sN Ps1 52 3000 3000) 17 0 0 (52, 0)) 53 802 802) 17 0 4 (53, 0)) 54 802 802) 17 0 5 (54, 0)) 55 802 802) 17 0 6 (55, 0)
theorem st_129_0 : sm_callM X false (d + 1) 129 [vP (17, 0)] Ps1 = some (some none, Ps2) := by
  refine (sm_callM_eq (by decide) (Nat.le_of_ble_eq_true rfl) rfl).trans ((qi_129_0 X _ 0 _).trans ?_)
  rfl
noncomputable def Ps3 : sm_S := sN (sR Ps2 21 0 0 (17, 0)) 20 5 0
noncomputable def Ps4 : sm_S := sR (sN (sR (sN Ps3 56 300 300) 20 0 0 (56, 0)) 57 200 200) 20 0 1 (57, 0)
theorem st_156_0 : sm_callM X false (d + 1) 156 [vP (20, 0)] Ps3 = some (some none, Ps4) := by
  refine (sm_callM_eq (by decide) (Nat.le_of_ble_eq_true rfl) rfl).trans ((qi_156_0 X _ 0 _).trans ?_)
  rfl
noncomputable def Ps5 : sm_S := sN (sR Ps4 21 0 1 (20, 0)) 12 5 0
noncomputable def Ps6 : sm_S := sR (sN (sR (sN (sR (sN Ps5 39 8 8) 12 0 0 (39, 0)) 40 8 8) 12 0 1 (40, 0)) 41 10 10) 12 0 2 (41, 0)
theorem st_30_0 : sm_callM X false (d + 1) 30 [vP (12, 0)] Ps5 = some (some none, Ps6) := by
  refine (sm_callM_eq (by decide) (Nat.le_of_ble_eq_true rfl) rfl).trans ((qi_30_0 X _ 0 _).trans ?_)
  rfl
noncomputable def Ps7 : sm_S := sN (sR Ps6 21 0 2 (12, 0)) 10 13 0
noncomputable def Ps8 : sm_S := sI (sI (sC (sC (sC (sR (sN (sR (sN (sR (sN (sR (sN (sR (sN (sR (sN (sR (sN (sR (sN (sR (sN Ps7 30 900 900) 10 0 0 (30, 0)) 31 900 900) 10 0 1 (31, 0)) 32 900 900) 10 0 2 (32, 0)) 33 900 900) 10 0 3 (33, 0)) 34 100 100) 10 0 4 (34, 0)) 35 17 17) 10 0 5 (35, 0)) 36 17 17) 10 0 6 (36, 0)) 37 68 68) 10 0 7 (37, 0)) 38 17 17) 10 0 8 (38, 0)) 37 0 0 20 fun k => (sm_tb 0).getD k 0) 36 0 0 5 fun k => (sm_tb 1).getD k 0) 38 0 0 5 fun k => (sm_tb 2).getD k 0) 10 0 9 5) 10 0 12 (-1)
theorem st_0_0 : sm_callM X false (d + 1) 0 [vP (10, 0)] Ps7 = some (some none, Ps8) := by
  refine (sm_callM_eq (by decide) (Nat.le_of_ble_eq_true rfl) rfl).trans ((qi_0_0 X _ 0 _).trans ?_)
  rfl
noncomputable def Ps9 : sm_S := sN (sR Ps8 21 0 5 (10, 0)) 10 13 0
noncomputable def Ps10 : sm_S := sI (sI (sC (sC (sC (sR (sN (sR (sN (sR (sN (sR (sN (sR (sN (sR (sN (sR (sN (sR (sN (sR (sN Ps9 30 900 900) 10 1 0 (30, 1)) 31 900 900) 10 1 1 (31, 1)) 32 900 900) 10 1 2 (32, 1)) 33 900 900) 10 1 3 (33, 1)) 34 100 100) 10 1 4 (34, 1)) 35 17 17) 10 1 5 (35, 1)) 36 17 17) 10 1 6 (36, 1)) 37 68 68) 10 1 7 (37, 1)) 38 17 17) 10 1 8 (38, 1)) 37 1 0 20 fun k => (sm_tb 0).getD k 0) 36 1 0 5 fun k => (sm_tb 1).getD k 0) 38 1 0 5 fun k => (sm_tb 2).getD k 0) 10 1 9 5) 10 1 12 (-1)
theorem st_0_1 : sm_callM X false (d + 1) 0 [vP (10, 1)] Ps9 = some (some none, Ps10) := by
  refine (sm_callM_eq (by decide) (Nat.le_of_ble_eq_true rfl) rfl).trans ((qi_0_0 X _ 1 _).trans ?_)
  rfl
noncomputable def Ps11 : sm_S := sN (sR Ps10 21 0 6 (10, 1)) 15 13 0
noncomputable def Ps12 : sm_S := sN Ps11 14 5 0
noncomputable def Ps13 : sm_S := sR (sN (sR (sN (sR (sN Ps12 47 24 24) 14 0 0 (47, 0)) 48 24 24) 14 0 1 (48, 0)) 49 24 24) 14 0 2 (49, 0)
theorem st_72_0 : sm_callM X false (d + 1) 72 [vP (14, 0)] Ps12 = some (some none, Ps13) := by
  refine (sm_callM_eq (by decide) (Nat.le_of_ble_eq_true rfl) rfl).trans ((qi_72_0 X _ 0 _).trans ?_)
  rfl
noncomputable def Ps14 : sm_S := sR (sR (sI (sR (sN (sR Ps13 15 0 1 (14, 0)) 50 12 12) 15 0 2 (50, 0)) 15 0 12 (-1)) 15 0 0 (17, 0)) 15 0 3 (10, 1)
theorem st_81_0 : sm_callM X false (d + 2) 81 [vP (15, 0), vP (17, 0), vP (10, 1)] Ps11 = some (some none, Ps14) := by
  refine (sm_callM_eq (by decide) (Nat.le_of_ble_eq_true rfl) rfl).trans ((qi_81_0 X _ 0 (17, 0) (10, 1) _).trans ?_)
  refine (bV_c (st_72_0 (X := X) (d := d + 0))).trans ?_
  rfl
noncomputable def Ps15 : sm_S := sN (sR Ps14 21 0 3 (15, 0)) 13 18 0
noncomputable def Ps16 : sm_S := sR (sR (sR (sR (sN (sR (sN (sR (sN (sR (sN (sR (sN Ps15 42 1560 1560) 13 0 2 (42, 0)) 43 15 15) 13 0 3 (43, 0)) 44 15 15) 13 0 4 (44, 0)) 45 7 7) 13 0 5 (45, 0)) 46 300 300) 13 0 15 (46, 0)) 13 0 0 (20, 0)) 13 0 1 (12, 0)) 13 0 7 (10, 0)
theorem st_41_0 : sm_callM X false (d + 1) 41 [vP (13, 0), vP (20, 0), vP (12, 0), vP (10, 0)] Ps15 = some (some none, Ps16) := by
  refine (sm_callM_eq (by decide) (Nat.le_of_ble_eq_true rfl) rfl).trans ((qi_41_0 X _ 0 (20, 0) (12, 0) (10, 0) _).trans ?_)
  rfl
noncomputable def Ps17 : sm_S := sR Ps16 21 0 4 (13, 0)
theorem st_166_0 : sm_callM X false (d + 3) 166 [vP (21, 0)] Ps0 = some (some none, Ps17) := by
  refine (sm_callM_eq (by decide) (Nat.le_of_ble_eq_true rfl) rfl).trans ((qi_166_0 X _ 0 _).trans ?_)
  refine (bV_c (st_129_0 (X := X) (d := d + 1))).trans ?_
  refine (bV_c (st_156_0 (X := X) (d := d + 1))).trans ?_
  refine (bV_c (st_30_0 (X := X) (d := d + 1))).trans ?_
  refine (bV_c (st_0_0 (X := X) (d := d + 1))).trans ?_
  refine (bV_c (st_0_1 (X := X) (d := d + 1))).trans ?_
  refine (bV_c (st_81_0 (X := X) (d := d + 0))).trans ?_
  refine (bV_c (st_41_0 (X := X) (d := d + 1))).trans ?_
  rfl
noncomputable def PsM : sm_S := sN Ps17 23 67 0
noncomputable def Ps18 : sm_S := sN (sR (sN (sR (sN (sR (sN (sR (sN PsM 67 3000 3000) 23 0 0 (67, 0)) 68 803 803) 23 0 2 (68, 0)) 69 803 803) 23 0 3 (69, 0)) 70 803 803) 23 0 4 (70, 0)) 22 11 0
noncomputable def Ps19 : sm_S := sR (sN (sR (sN (sR (sN (sR (sN (sR (sN (sR (sN (sR (sN (sR (sN (sR (sN Ps18 58 12 12) 22 0 1 (58, 0)) 59 12 12) 22 0 2 (59, 0)) 60 12 12) 22 0 3 (60, 0)) 61 48 48) 22 0 4 (61, 0)) 62 12 12) 22 0 5 (62, 0)) 63 4000 4000) 22 0 7 (63, 0)) 64 4000 4000) 22 0 8 (64, 0)) 65 4000 4000) 22 0 9 (65, 0)) 66 4000 4000) 22 0 10 (66, 0)
theorem st_180_0 : sm_callM X false (d + 1) 180 [vP (22, 0)] Ps18 = some (some none, Ps19) := by
  refine (sm_callM_eq (by decide) (Nat.le_of_ble_eq_true rfl) rfl).trans ((qi_180_0 X _ 0 _).trans ?_)
  rfl
noncomputable def Ps20 : sm_S := sN (sR Ps19 23 0 6 (22, 0)) 22 11 0
noncomputable def Ps21 : sm_S := sR (sN (sR (sN (sR (sN (sR (sN (sR (sN (sR (sN (sR (sN (sR (sN (sR (sN Ps20 58 12 12) 22 1 1 (58, 1)) 59 12 12) 22 1 2 (59, 1)) 60 12 12) 22 1 3 (60, 1)) 61 48 48) 22 1 4 (61, 1)) 62 12 12) 22 1 5 (62, 1)) 63 4000 4000) 22 1 7 (63, 1)) 64 4000 4000) 22 1 8 (64, 1)) 65 4000 4000) 22 1 9 (65, 1)) 66 4000 4000) 22 1 10 (66, 1)
theorem st_180_1 : sm_callM X false (d + 1) 180 [vP (22, 1)] Ps20 = some (some none, Ps21) := by
  refine (sm_callM_eq (by decide) (Nat.le_of_ble_eq_true rfl) rfl).trans ((qi_180_0 X _ 1 _).trans ?_)
  rfl
noncomputable def Ps22 : sm_S := sR (sN (sR (sN (sR (sN (sR (sN (sR (sN (sR (sN (sR (sN (sI (sI (sI (sR (sN (sR (sN (sR (sN (sR (sN (sR (sN (sR (sN (sR (sN (sR (sN (sR (sN (sR (sN (sR (sN (sR (sN (sR (sN (sR (sN (sR (sN (sR (sN (sR (sN (sR (sN (sR (sN (sI (sR (sN (sR Ps21 23 0 7 (22, 1)) 24 6 0) 23 0 8 (24, 0)) 23 0 10 (-1)) 71 24 24) 23 0 17 (71, 0)) 72 24 24) 23 0 18 (72, 0)) 73 24 24) 23 0 19 (73, 0)) 74 300 300) 23 0 29 (74, 0)) 75 2700 2700) 23 0 30 (75, 0)) 76 200 200) 23 0 31 (76, 0)) 77 200 200) 23 0 32 (77, 0)) 78 200 200) 23 0 33 (78, 0)) 79 2000 2000) 23 0 34 (79, 0)) 80 300 300) 23 0 35 (80, 0)) 81 4000 4000) 23 0 36 (81, 0)) 82 360 360) 23 0 38 (82, 0)) 83 15 15) 23 0 40 (83, 0)) 84 15 15) 23 0 41 (84, 0)) 85 15 15) 23 0 42 (85, 0)) 86 200 200) 23 0 43 (86, 0)) 87 200 200) 23 0 44 (87, 0)) 88 200 200) 23 0 45 (88, 0)) 89 200 200) 23 0 46 (89, 0)) 23 0 50 (-1)) 23 0 54 (-1)) 23 0 55 (-1)) 90 8 8) 23 0 58 (90, 0)) 91 8 8) 23 0 59 (91, 0)) 92 10 10) 23 0 62 (92, 0)) 93 10 10) 23 0 63 (93, 0)) 94 10 10) 23 0 64 (94, 0)) 95 10 10) 23 0 65 (95, 0)) 96 10 10) 23 0 66 (96, 0)
theorem st_277_0 : sm_callM X false (d + 2) 277 [vP (23, 0)] PsM = some (some none, Ps22) := by
  refine (sm_callM_eq (by decide) (Nat.le_of_ble_eq_true rfl) rfl).trans ((qi_277_0 X _ 0 _).trans ?_)
  refine (bV_c (st_180_0 (X := X) (d := d + 0))).trans ?_
  refine (bV_c (st_180_1 (X := X) (d := d + 0))).trans ?_
  rfl
noncomputable def Ps : sm_S := Ps22
theorem st_law : sm_go (sm_ZZ X) sm_PP false (sm_callL X (d + 3)) 308 0 [vP (4, 0), vU, vU, vU] [] sm_0 = sm_go (sm_ZZ X) sm_PP false (sm_callL X (d + 3)) 308 18 [vP (4, 0), vP (21, 0), vP (23, 0), vI 0] [] Ps := by
  refine (q_law_0 X _ 0 sm_0).trans ?_
  refine (bV_c (st_166_0 (X := X) (d := d + 0))).trans ?_
  refine (bV_c (st_277_0 (X := X) (d := d + 1))).trans ?_
  rfl
end
