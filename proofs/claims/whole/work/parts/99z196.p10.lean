section
/-! THE MAKERS, AND THE LAW ITSELF -/
variable {X : Nat × (Nat → Int32)} {d : Nat} {s : sm_S}
theorem hi_166 : sm_chain 0 cd_X11_init = true := by decide +kernel
set_option maxRecDepth 20000 in
theorem qi_166_0 (X : Nat × (Nat → Int32)) (C : sm_C) (i0 : Nat) (s : sm_S) : sm_go (sm_ZZ X) sm_PP false C 166 0 [vP (21, i0)] [] s =
  sm_bV (C 129 [vP (17, (s.2.2.2.2.1 17))] (sN s 17 8 0)) sm_tw fun s2 =>
  sm_bV (C 156 [vP (20, (s2.2.2.2.2.1 20))] (sN (sR s2 21 i0 0 (17, (s.2.2.2.2.1 17))) 20 5 0)) sm_tw fun s4 =>
  sm_bV (C 30 [vP (12, (s4.2.2.2.2.1 12))] (sN (sR s4 21 i0 1 (20, (s2.2.2.2.2.1 20))) 12 5 0)) sm_tw fun s6 =>
  sm_bV (C 0 [vP (10, (s6.2.2.2.2.1 10))] (sN (sR s6 21 i0 2 (12, (s4.2.2.2.2.1 12))) 10 13 0)) sm_tw fun s8 =>
  sm_bV (C 0 [vP (10, (s8.2.2.2.2.1 10))] (sN (sR s8 21 i0 5 (10, (s6.2.2.2.2.1 10))) 10 13 0)) sm_tw fun s10 =>
  sm_bV (C 81 [vP (15, (s10.2.2.2.2.1 15)), vP ((sN (sR s10 21 i0 6 (10, (s8.2.2.2.2.1 10))) 15 13 0).2.2.1 21 i0 0), vP ((sN (sR s10 21 i0 6 (10, (s8.2.2.2.2.1 10))) 15 13 0).2.2.1 21 i0 6)] (sN (sR s10 21 i0 6 (10, (s8.2.2.2.2.1 10))) 15 13 0)) sm_tw fun s12 =>
  sm_bV (C 41 [vP (13, (s12.2.2.2.2.1 13)), vP ((sN (sR s12 21 i0 3 (15, (s10.2.2.2.2.1 15))) 13 18 0).2.2.1 21 i0 1), vP ((sN (sR s12 21 i0 3 (15, (s10.2.2.2.2.1 15))) 13 18 0).2.2.1 21 i0 2), vP ((sN (sR s12 21 i0 3 (15, (s10.2.2.2.2.1 15))) 13 18 0).2.2.1 21 i0 5)] (sN (sR s12 21 i0 3 (15, (s10.2.2.2.2.1 15))) 13 18 0)) sm_tw fun s14 =>
  some (some none, (sR s14 21 i0 4 (13, (s12.2.2.2.2.1 13)))) :=
  (sm_go_x (cd := cd_X11_init) rfl hi_166 400 0 _ _ _).trans rfl
theorem hi_0 : sm_chain 0 cd_X0_init = true := by decide +kernel
set_option maxRecDepth 20000 in
theorem qi_0_0 (X : Nat × (Nat → Int32)) (C : sm_C) (i0 : Nat) (s : sm_S) : sm_go (sm_ZZ X) sm_PP false C 0 0 [vP (10, i0)] [] s =
  sm_rq ((sR (sN (sR (sN (sR (sN (sR (sN (sR (sN (sR (sN (sR (sN (sR (sN (sR (sN s 30 900 900) 10 i0 0 (30, (s.2.2.2.2.1 30))) 31 900 900) 10 i0 1 (31, (s.2.2.2.2.1 31))) 32 900 900) 10 i0 2 (32, (s.2.2.2.2.1 32))) 33 900 900) 10 i0 3 (33, (s.2.2.2.2.1 33))) 34 100 100) 10 i0 4 (34, (s.2.2.2.2.1 34))) 35 17 17) 10 i0 5 (35, (s.2.2.2.2.1 35))) 36 17 17) 10 i0 6 (36, (s.2.2.2.2.1 36))) 37 68 68) 10 i0 7 (37, (s.2.2.2.2.1 37))) 38 17 17) 10 i0 8 (38, (s.2.2.2.2.1 38))).2.2.1 10 i0 7) 37 fun j1 =>
  sm_rq ((sC (sR (sN (sR (sN (sR (sN (sR (sN (sR (sN (sR (sN (sR (sN (sR (sN (sR (sN s 30 900 900) 10 i0 0 (30, (s.2.2.2.2.1 30))) 31 900 900) 10 i0 1 (31, (s.2.2.2.2.1 31))) 32 900 900) 10 i0 2 (32, (s.2.2.2.2.1 32))) 33 900 900) 10 i0 3 (33, (s.2.2.2.2.1 33))) 34 100 100) 10 i0 4 (34, (s.2.2.2.2.1 34))) 35 17 17) 10 i0 5 (35, (s.2.2.2.2.1 35))) 36 17 17) 10 i0 6 (36, (s.2.2.2.2.1 36))) 37 68 68) 10 i0 7 (37, (s.2.2.2.2.1 37))) 38 17 17) 10 i0 8 (38, (s.2.2.2.2.1 38))) 37 j1 0 20 fun k => (sm_tb 0).getD k 0).2.2.1 10 i0 6) 36 fun j2 =>
  sm_rq ((sC (sC (sR (sN (sR (sN (sR (sN (sR (sN (sR (sN (sR (sN (sR (sN (sR (sN (sR (sN s 30 900 900) 10 i0 0 (30, (s.2.2.2.2.1 30))) 31 900 900) 10 i0 1 (31, (s.2.2.2.2.1 31))) 32 900 900) 10 i0 2 (32, (s.2.2.2.2.1 32))) 33 900 900) 10 i0 3 (33, (s.2.2.2.2.1 33))) 34 100 100) 10 i0 4 (34, (s.2.2.2.2.1 34))) 35 17 17) 10 i0 5 (35, (s.2.2.2.2.1 35))) 36 17 17) 10 i0 6 (36, (s.2.2.2.2.1 36))) 37 68 68) 10 i0 7 (37, (s.2.2.2.2.1 37))) 38 17 17) 10 i0 8 (38, (s.2.2.2.2.1 38))) 37 j1 0 20 fun k => (sm_tb 0).getD k 0) 36 j2 0 5 fun k => (sm_tb 1).getD k 0).2.2.1 10 i0 8) 38 fun j3 =>
  some (some none, (sI (sI (sC (sC (sC (sR (sN (sR (sN (sR (sN (sR (sN (sR (sN (sR (sN (sR (sN (sR (sN (sR (sN s 30 900 900) 10 i0 0 (30, (s.2.2.2.2.1 30))) 31 900 900) 10 i0 1 (31, (s.2.2.2.2.1 31))) 32 900 900) 10 i0 2 (32, (s.2.2.2.2.1 32))) 33 900 900) 10 i0 3 (33, (s.2.2.2.2.1 33))) 34 100 100) 10 i0 4 (34, (s.2.2.2.2.1 34))) 35 17 17) 10 i0 5 (35, (s.2.2.2.2.1 35))) 36 17 17) 10 i0 6 (36, (s.2.2.2.2.1 36))) 37 68 68) 10 i0 7 (37, (s.2.2.2.2.1 37))) 38 17 17) 10 i0 8 (38, (s.2.2.2.2.1 38))) 37 j1 0 20 fun k => (sm_tb 0).getD k 0) 36 j2 0 5 fun k => (sm_tb 1).getD k 0) 38 j3 0 5 fun k => (sm_tb 2).getD k 0) 10 i0 9 5) 10 i0 12 (-1))) :=
  (sm_go_x (cd := cd_X0_init) rfl hi_0 400 0 _ _ _).trans rfl
theorem hi_30 : sm_chain 0 cd_X2_init = true := by decide +kernel
set_option maxRecDepth 20000 in
theorem qi_30_0 (X : Nat × (Nat → Int32)) (C : sm_C) (i0 : Nat) (s : sm_S) : sm_go (sm_ZZ X) sm_PP false C 30 0 [vP (12, i0)] [] s =
  some (some none, (sR (sN (sR (sN (sR (sN s 39 8 8) 12 i0 0 (39, (s.2.2.2.2.1 39))) 40 8 8) 12 i0 1 (40, (s.2.2.2.2.1 40))) 41 10 10) 12 i0 2 (41, (s.2.2.2.2.1 41)))) :=
  (sm_go_x (cd := cd_X2_init) rfl hi_30 400 0 _ _ _).trans rfl
theorem hi_41 : sm_chain 0 cd_X3_init = true := by decide +kernel
set_option maxRecDepth 20000 in
theorem qi_41_0 (X : Nat × (Nat → Int32)) (C : sm_C) (i0 : Nat) (q1 : Nat × Nat) (q2 : Nat × Nat) (q3 : Nat × Nat) (s : sm_S) : sm_go (sm_ZZ X) sm_PP false C 41 0 [vP (13, i0), vP q1, vP q2, vP q3] [] s =
  some (some none, (sR (sR (sR (sR (sN (sR (sN (sR (sN (sR (sN (sR (sN s 42 1560 1560) 13 i0 2 (42, (s.2.2.2.2.1 42))) 43 15 15) 13 i0 3 (43, (s.2.2.2.2.1 43))) 44 15 15) 13 i0 4 (44, (s.2.2.2.2.1 44))) 45 7 7) 13 i0 5 (45, (s.2.2.2.2.1 45))) 46 300 300) 13 i0 15 (46, (s.2.2.2.2.1 46))) 13 i0 0 q1) 13 i0 1 q2) 13 i0 7 q3)) :=
  (sm_go_x (cd := cd_X3_init) rfl hi_41 400 0 _ _ _).trans rfl
theorem hi_72 : sm_chain 0 cd_X4_init = true := by decide +kernel
set_option maxRecDepth 20000 in
theorem qi_72_0 (X : Nat × (Nat → Int32)) (C : sm_C) (i0 : Nat) (s : sm_S) : sm_go (sm_ZZ X) sm_PP false C 72 0 [vP (14, i0)] [] s =
  some (some none, (sR (sN (sR (sN (sR (sN s 47 24 24) 14 i0 0 (47, (s.2.2.2.2.1 47))) 48 24 24) 14 i0 1 (48, (s.2.2.2.2.1 48))) 49 24 24) 14 i0 2 (49, (s.2.2.2.2.1 49)))) :=
  (sm_go_x (cd := cd_X4_init) rfl hi_72 400 0 _ _ _).trans rfl
theorem hi_81 : sm_chain 0 cd_X5_init = true := by decide +kernel
set_option maxRecDepth 20000 in
theorem qi_81_0 (X : Nat × (Nat → Int32)) (C : sm_C) (i0 : Nat) (q1 : Nat × Nat) (q2 : Nat × Nat) (s : sm_S) : sm_go (sm_ZZ X) sm_PP false C 81 0 [vP (15, i0), vP q1, vP q2] [] s =
  sm_bV (C 72 [vP (14, (s.2.2.2.2.1 14))] (sN s 14 5 0)) sm_tw fun s2 =>
  some (some none, (sR (sR (sI (sR (sN (sR s2 15 i0 1 (14, (s.2.2.2.2.1 14))) 50 12 12) 15 i0 2 (50, (s2.2.2.2.2.1 50))) 15 i0 12 (-1)) 15 i0 0 q1) 15 i0 3 q2)) :=
  (sm_go_x (cd := cd_X5_init) rfl hi_81 400 0 _ _ _).trans rfl
theorem hi_129 : sm_chain 0 cd_X7_init = true := by decide +kernel
set_option maxRecDepth 20000 in
theorem qi_129_0 (X : Nat × (Nat → Int32)) (C : sm_C) (i0 : Nat) (s : sm_S) : sm_go (sm_ZZ X) sm_PP false C 129 0 [vP (17, i0)] [] s =
  some (some none, (sR (sN (sR (sN (sR (sN (sR (sN s 52 3000 3000) 17 i0 0 (52, (s.2.2.2.2.1 52))) 53 802 802) 17 i0 4 (53, (s.2.2.2.2.1 53))) 54 802 802) 17 i0 5 (54, (s.2.2.2.2.1 54))) 55 802 802) 17 i0 6 (55, (s.2.2.2.2.1 55)))) :=
  (sm_go_x (cd := cd_X7_init) rfl hi_129 400 0 _ _ _).trans rfl
theorem hi_156 : sm_chain 0 cd_X10_init = true := by decide +kernel
set_option maxRecDepth 20000 in
theorem qi_156_0 (X : Nat × (Nat → Int32)) (C : sm_C) (i0 : Nat) (s : sm_S) : sm_go (sm_ZZ X) sm_PP false C 156 0 [vP (20, i0)] [] s =
  some (some none, (sR (sN (sR (sN s 56 300 300) 20 i0 0 (56, (s.2.2.2.2.1 56))) 57 200 200) 20 i0 1 (57, (s.2.2.2.2.1 57)))) :=
  (sm_go_x (cd := cd_X10_init) rfl hi_156 400 0 _ _ _).trans rfl
theorem hi_277 : sm_chain 0 cd_X13_init = true := by decide +kernel
set_option maxRecDepth 20000 in
theorem qi_277_0 (X : Nat × (Nat → Int32)) (C : sm_C) (i0 : Nat) (s : sm_S) : sm_go (sm_ZZ X) sm_PP false C 277 0 [vP (23, i0)] [] s =
  sm_bV (C 180 [vP (22, (s.2.2.2.2.1 22))] (sN (sR (sN (sR (sN (sR (sN (sR (sN s 67 3000 3000) 23 i0 0 (67, (s.2.2.2.2.1 67))) 68 803 803) 23 i0 2 (68, (s.2.2.2.2.1 68))) 69 803 803) 23 i0 3 (69, (s.2.2.2.2.1 69))) 70 803 803) 23 i0 4 (70, (s.2.2.2.2.1 70))) 22 11 0)) sm_tw fun s2 =>
  sm_bV (C 180 [vP (22, (s2.2.2.2.2.1 22))] (sN (sR s2 23 i0 6 (22, (s.2.2.2.2.1 22))) 22 11 0)) sm_tw fun s4 =>
  some (some none, (sR (sN (sR (sN (sR (sN (sR (sN (sR (sN (sR (sN (sR (sN (sI (sI (sI (sR (sN (sR (sN (sR (sN (sR (sN (sR (sN (sR (sN (sR (sN (sR (sN (sR (sN (sR (sN (sR (sN (sR (sN (sR (sN (sR (sN (sR (sN (sR (sN (sR (sN (sR (sN (sR (sN (sI (sR (sN (sR s4 23 i0 7 (22, (s2.2.2.2.2.1 22))) 24 6 0) 23 i0 8 (24, (s4.2.2.2.2.1 24))) 23 i0 10 (-1)) 71 24 24) 23 i0 17 (71, (s4.2.2.2.2.1 71))) 72 24 24) 23 i0 18 (72, (s4.2.2.2.2.1 72))) 73 24 24) 23 i0 19 (73, (s4.2.2.2.2.1 73))) 74 300 300) 23 i0 29 (74, (s4.2.2.2.2.1 74))) 75 2700 2700) 23 i0 30 (75, (s4.2.2.2.2.1 75))) 76 200 200) 23 i0 31 (76, (s4.2.2.2.2.1 76))) 77 200 200) 23 i0 32 (77, (s4.2.2.2.2.1 77))) 78 200 200) 23 i0 33 (78, (s4.2.2.2.2.1 78))) 79 2000 2000) 23 i0 34 (79, (s4.2.2.2.2.1 79))) 80 300 300) 23 i0 35 (80, (s4.2.2.2.2.1 80))) 81 4000 4000) 23 i0 36 (81, (s4.2.2.2.2.1 81))) 82 360 360) 23 i0 38 (82, (s4.2.2.2.2.1 82))) 83 15 15) 23 i0 40 (83, (s4.2.2.2.2.1 83))) 84 15 15) 23 i0 41 (84, (s4.2.2.2.2.1 84))) 85 15 15) 23 i0 42 (85, (s4.2.2.2.2.1 85))) 86 200 200) 23 i0 43 (86, (s4.2.2.2.2.1 86))) 87 200 200) 23 i0 44 (87, (s4.2.2.2.2.1 87))) 88 200 200) 23 i0 45 (88, (s4.2.2.2.2.1 88))) 89 200 200) 23 i0 46 (89, (s4.2.2.2.2.1 89))) 23 i0 50 (-1)) 23 i0 54 (-1)) 23 i0 55 (-1)) 90 8 8) 23 i0 58 (90, (s4.2.2.2.2.1 90))) 91 8 8) 23 i0 59 (91, (s4.2.2.2.2.1 91))) 92 10 10) 23 i0 62 (92, (s4.2.2.2.2.1 92))) 93 10 10) 23 i0 63 (93, (s4.2.2.2.2.1 93))) 94 10 10) 23 i0 64 (94, (s4.2.2.2.2.1 94))) 95 10 10) 23 i0 65 (95, (s4.2.2.2.2.1 95))) 96 10 10) 23 i0 66 (96, (s4.2.2.2.2.1 96)))) :=
  (sm_go_x (cd := cd_X13_init) rfl hi_277 400 0 _ _ _).trans rfl
theorem hi_180 : sm_chain 0 cd_X12_init = true := by decide +kernel
set_option maxRecDepth 20000 in
theorem qi_180_0 (X : Nat × (Nat → Int32)) (C : sm_C) (i0 : Nat) (s : sm_S) : sm_go (sm_ZZ X) sm_PP false C 180 0 [vP (22, i0)] [] s =
  some (some none, (sR (sN (sR (sN (sR (sN (sR (sN (sR (sN (sR (sN (sR (sN (sR (sN (sR (sN s 58 12 12) 22 i0 1 (58, (s.2.2.2.2.1 58))) 59 12 12) 22 i0 2 (59, (s.2.2.2.2.1 59))) 60 12 12) 22 i0 3 (60, (s.2.2.2.2.1 60))) 61 48 48) 22 i0 4 (61, (s.2.2.2.2.1 61))) 62 12 12) 22 i0 5 (62, (s.2.2.2.2.1 62))) 63 4000 4000) 22 i0 7 (63, (s.2.2.2.2.1 63))) 64 4000 4000) 22 i0 8 (64, (s.2.2.2.2.1 64))) 65 4000 4000) 22 i0 9 (65, (s.2.2.2.2.1 65))) 66 4000 4000) 22 i0 10 (66, (s.2.2.2.2.1 66)))) :=
  (sm_go_x (cd := cd_X12_init) rfl hi_180 400 0 _ _ _).trans rfl
theorem hi_law : sm_chain 0 cd_L_law = true := by decide +kernel
set_option maxRecDepth 20000 in
theorem q_law_0 (X : Nat × (Nat → Int32)) (C : sm_C) (i0 : Nat) (s : sm_S) : sm_go (sm_ZZ X) sm_PP false C 308 0 [vP (4, i0), vU, vU, vU] [] s =
  sm_bV (C 166 [vP (21, (s.2.2.2.2.1 21))] (sN s 21 7 0)) sm_tw fun s2 =>
  sm_bV (C 277 [vP (23, (s2.2.2.2.2.1 23))] (sN s2 23 67 0)) sm_tw fun s4 =>
  sm_go (sm_ZZ X) sm_PP false C 308 18 [vP (4, i0), vP (21, (s.2.2.2.2.1 21)), vP (23, (s2.2.2.2.2.1 23)), vI 0] [] s4 :=
  (sm_go_x (cd := cd_L_law) rfl hi_law 400 0 _ _ _).trans rfl
set_option maxRecDepth 20000 in
theorem q_law_18 (X : Nat × (Nat → Int32)) (C : sm_C) (i0 : Nat) (q1 : Nat × Nat) (q2 : Nat × Nat) (x3 : Int32) (s : sm_S) : sm_go (sm_ZZ X) sm_PP false C 308 18 [vP (4, i0), vP q1, vP q2, vI x3] [] s =
  if ((Int32.ofNat X.1) - 6) < x3 then
   (some (some (some (vI 1)), s))
  else
   (sm_ix x3 X.1 fun z1 =>
   if ((X.2 z1) &&& 15) = 0 then
    (sm_ix (x3 + 1) X.1 fun z2 =>
    sm_ix (x3 + 2) X.1 fun z3 =>
    sm_ix (x3 + 3) X.1 fun z4 =>
    sm_ix (x3 + 4) X.1 fun z5 =>
    sm_ix (x3 + 5) X.1 fun z6 =>
    if q1.1 = 21 then
     (sm_bI (C 167 [vP q1, vI (X.2 z2), vI (X.2 z3), vI (X.2 z4), vI (X.2 z5), vI (X.2 z6)] s) sm_tw fun y7 s8 =>
    sm_ix (x3 + 1) X.1 fun z9 =>
    sm_ix (x3 + 2) X.1 fun z10 =>
    sm_ix (x3 + 3) X.1 fun z11 =>
    sm_ix (x3 + 4) X.1 fun z12 =>
    sm_ix (x3 + 5) X.1 fun z13 =>
    if q2.1 = 23 then
     (sm_bI (C 279 [vP q2, vI (X.2 z9), vI (X.2 z10), vI (X.2 z11), vI (X.2 z12), vI (X.2 z13)] s8) sm_tw fun y14 s15 =>
    if y7 = y14 then
     (sm_go (sm_ZZ X) sm_PP false C 308 18 [vP (4, i0), vP q1, vP q2, vI (x3 + 6)] [] s15)
    else
     (some (some (some (vI 0)), s15)))
    else none)
    else none)
   else if ((X.2 z1) &&& 15) = 1 then
    (sm_ix (x3 + 1) X.1 fun z16 =>
    if q1.1 = 21 then
     (sm_bI (C 168 [vP q1, vI (X.2 z16)] s) sm_tw fun y17 s18 =>
    sm_ix (x3 + 1) X.1 fun z19 =>
    if q2.1 = 23 then
     (sm_bI (C 280 [vP q2, vI (X.2 z19)] s18) sm_tw fun y20 s21 =>
    if y17 = y20 then
     (sm_go (sm_ZZ X) sm_PP false C 308 18 [vP (4, i0), vP q1, vP q2, vI (x3 + 6)] [] s21)
    else
     (some (some (some (vI 0)), s21)))
    else none)
    else none)
   else if ((X.2 z1) &&& 15) = 2 then
    (sm_ix (x3 + 1) X.1 fun z22 =>
    if q1.1 = 21 then
     (sm_bI (C 169 [vP q1, vI (X.2 z22)] s) sm_tw fun y23 s24 =>
    sm_ix (x3 + 1) X.1 fun z25 =>
    if q2.1 = 23 then
     (sm_bI (C 281 [vP q2, vI (X.2 z25)] s24) sm_tw fun y26 s27 =>
    if y23 = y26 then
     (sm_go (sm_ZZ X) sm_PP false C 308 18 [vP (4, i0), vP q1, vP q2, vI (x3 + 6)] [] s27)
    else
     (some (some (some (vI 0)), s27)))
    else none)
    else none)
   else if ((X.2 z1) &&& 15) = 3 then
    (sm_ix (x3 + 1) X.1 fun z28 =>
    sm_ix (x3 + 2) X.1 fun z29 =>
    sm_ix (x3 + 3) X.1 fun z30 =>
    sm_ix (x3 + 4) X.1 fun z31 =>
    if q1.1 = 21 then
     (sm_bI (C 170 [vP q1, vI (X.2 z28), vI (X.2 z29), vI (X.2 z30), vI (X.2 z31)] s) sm_tw fun y32 s33 =>
    sm_ix (x3 + 1) X.1 fun z34 =>
    sm_ix (x3 + 2) X.1 fun z35 =>
    sm_ix (x3 + 3) X.1 fun z36 =>
    sm_ix (x3 + 4) X.1 fun z37 =>
    if q2.1 = 23 then
     (sm_bI (C 283 [vP q2, vI (X.2 z34), vI (X.2 z35), vI (X.2 z36), vI (X.2 z37)] s33) sm_tw fun y38 s39 =>
    if y32 = y38 then
     (sm_go (sm_ZZ X) sm_PP false C 308 18 [vP (4, i0), vP q1, vP q2, vI (x3 + 6)] [] s39)
    else
     (some (some (some (vI 0)), s39)))
    else none)
    else none)
   else if ((X.2 z1) &&& 15) = 4 then
    (sm_ix (x3 + 1) X.1 fun z40 =>
    if q1.1 = 21 then
     (sm_bI (C 171 [vP q1, vI (X.2 z40)] s) sm_tw fun y41 s42 =>
    sm_ix (x3 + 1) X.1 fun z43 =>
    if q2.1 = 23 then
     (sm_bI (C 284 [vP q2, vI (X.2 z43)] s42) sm_tw fun y44 s45 =>
    if y41 = y44 then
     (sm_go (sm_ZZ X) sm_PP false C 308 18 [vP (4, i0), vP q1, vP q2, vI (x3 + 6)] [] s45)
    else
     (some (some (some (vI 0)), s45)))
    else none)
    else none)
   else if ((X.2 z1) &&& 15) = 5 then
    (sm_ix (x3 + 1) X.1 fun z46 =>
    if q1.1 = 21 then
     (sm_bI (C 172 [vP q1, vI (X.2 z46)] s) sm_tw fun y47 s48 =>
    sm_ix (x3 + 1) X.1 fun z49 =>
    if q2.1 = 23 then
     (sm_bI (C 285 [vP q2, vI (X.2 z49)] s48) sm_tw fun y50 s51 =>
    if y47 = y50 then
     (sm_go (sm_ZZ X) sm_PP false C 308 18 [vP (4, i0), vP q1, vP q2, vI (x3 + 6)] [] s51)
    else
     (some (some (some (vI 0)), s51)))
    else none)
    else none)
   else if ((X.2 z1) &&& 15) = 6 then
    (sm_ix (x3 + 1) X.1 fun z52 =>
    sm_ix (x3 + 2) X.1 fun z53 =>
    if q1.1 = 21 then
     (sm_bI (C 173 [vP q1, vI (X.2 z52), vI (X.2 z53)] s) sm_tw fun y54 s55 =>
    sm_ix (x3 + 1) X.1 fun z56 =>
    sm_ix (x3 + 2) X.1 fun z57 =>
    if q2.1 = 23 then
     (sm_bI (C 286 [vP q2, vI (X.2 z56), vI (X.2 z57)] s55) sm_tw fun y58 s59 =>
    if y54 = y58 then
     (sm_go (sm_ZZ X) sm_PP false C 308 18 [vP (4, i0), vP q1, vP q2, vI (x3 + 6)] [] s59)
    else
     (some (some (some (vI 0)), s59)))
    else none)
    else none)
   else if ((X.2 z1) &&& 15) = 7 then
    (sm_ix (x3 + 1) X.1 fun z60 =>
    if q1.1 = 21 then
     (sm_bI (C 174 [vP q1, vI (X.2 z60)] s) sm_tw fun y61 s62 =>
    sm_ix (x3 + 1) X.1 fun z63 =>
    if q2.1 = 23 then
     (sm_bI (C 287 [vP q2, vI (X.2 z63)] s62) sm_tw fun y64 s65 =>
    if y61 = y64 then
     (sm_go (sm_ZZ X) sm_PP false C 308 18 [vP (4, i0), vP q1, vP q2, vI (x3 + 6)] [] s65)
    else
     (some (some (some (vI 0)), s65)))
    else none)
    else none)
   else if ((X.2 z1) &&& 15) = 8 then
    (sm_ix (x3 + 1) X.1 fun z66 =>
    sm_ix (x3 + 2) X.1 fun z67 =>
    if q1.1 = 21 then
     (sm_bI (C 175 [vP q1, vI (X.2 z66), vI (X.2 z67)] s) sm_tw fun y68 s69 =>
    sm_ix (x3 + 1) X.1 fun z70 =>
    sm_ix (x3 + 2) X.1 fun z71 =>
    if q2.1 = 23 then
     (sm_bI (C 288 [vP q2, vI (X.2 z70), vI (X.2 z71)] s69) sm_tw fun y72 s73 =>
    if y68 = y72 then
     (sm_go (sm_ZZ X) sm_PP false C 308 18 [vP (4, i0), vP q1, vP q2, vI (x3 + 6)] [] s73)
    else
     (some (some (some (vI 0)), s73)))
    else none)
    else none)
   else if ((X.2 z1) &&& 15) = 9 then
    (sm_ix (x3 + 1) X.1 fun z74 =>
    sm_ix (x3 + 2) X.1 fun z75 =>
    if q1.1 = 21 then
     (sm_bI (C 176 [vP q1, vI (X.2 z74), vI (X.2 z75)] s) sm_tw fun y76 s77 =>
    sm_ix (x3 + 1) X.1 fun z78 =>
    sm_ix (x3 + 2) X.1 fun z79 =>
    if q2.1 = 23 then
     (sm_bI (C 290 [vP q2, vI (X.2 z78), vI (X.2 z79)] s77) sm_tw fun y80 s81 =>
    if y76 = y80 then
     (sm_go (sm_ZZ X) sm_PP false C 308 18 [vP (4, i0), vP q1, vP q2, vI (x3 + 6)] [] s81)
    else
     (some (some (some (vI 0)), s81)))
    else none)
    else none)
   else if ((X.2 z1) &&& 15) = 10 then
    (sm_ix (x3 + 1) X.1 fun z82 =>
    sm_ix (x3 + 2) X.1 fun z83 =>
    if q1.1 = 21 then
     (sm_bI (C 177 [vP q1, vI (X.2 z82), vI (X.2 z83)] s) sm_tw fun y84 s85 =>
    sm_ix (x3 + 1) X.1 fun z86 =>
    sm_ix (x3 + 2) X.1 fun z87 =>
    if q2.1 = 23 then
     (sm_bI (C 291 [vP q2, vI (X.2 z86), vI (X.2 z87)] s85) sm_tw fun y88 s89 =>
    if y84 = y88 then
     (sm_go (sm_ZZ X) sm_PP false C 308 18 [vP (4, i0), vP q1, vP q2, vI (x3 + 6)] [] s89)
    else
     (some (some (some (vI 0)), s89)))
    else none)
    else none)
   else if ((X.2 z1) &&& 15) = 11 then
    (sm_ix (x3 + 1) X.1 fun z90 =>
    sm_ix (x3 + 2) X.1 fun z91 =>
    if q1.1 = 21 then
     (sm_bI (C 178 [vP q1, vI (X.2 z90), vI (X.2 z91)] s) sm_tw fun y92 s93 =>
    sm_ix (x3 + 1) X.1 fun z94 =>
    sm_ix (x3 + 2) X.1 fun z95 =>
    if q2.1 = 23 then
     (sm_bI (C 292 [vP q2, vI (X.2 z94), vI (X.2 z95)] s93) sm_tw fun y96 s97 =>
    if y92 = y96 then
     (sm_go (sm_ZZ X) sm_PP false C 308 18 [vP (4, i0), vP q1, vP q2, vI (x3 + 6)] [] s97)
    else
     (some (some (some (vI 0)), s97)))
    else none)
    else none)
   else if ((X.2 z1) &&& 15) = 12 then
    (sm_ix (x3 + 1) X.1 fun z98 =>
    if q1.1 = 21 then
     (sm_bI (C 179 [vP q1, vI (X.2 z98)] s) sm_tw fun y99 s100 =>
    sm_ix (x3 + 1) X.1 fun z101 =>
    if q2.1 = 23 then
     (sm_bI (C 293 [vP q2, vI (X.2 z101)] s100) sm_tw fun y102 s103 =>
    if y99 = y102 then
     (sm_go (sm_ZZ X) sm_PP false C 308 18 [vP (4, i0), vP q1, vP q2, vI (x3 + 6)] [] s103)
    else
     (some (some (some (vI 0)), s103)))
    else none)
    else none)
   else (sm_go (sm_ZZ X) sm_PP false C 308 18 [vP (4, i0), vP q1, vP q2, vI (x3 + 6)] [] s)) :=
  (sm_go_x (cd := cd_L_law) rfl hi_law 400 18 _ _ _).trans rfl
end
