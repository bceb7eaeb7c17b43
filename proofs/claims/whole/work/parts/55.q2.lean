section
theorem h_X3_enter : sm_chain 0 cd_X3_enter = true := by decide +kernel
set_option maxRecDepth 20000 in
theorem q_X3_enter_0 (X : Nat × (Nat → Int32)) (C : sm_C) (i0 : Nat) (x1 : Int32) (s : sm_S) : sm_go (sm_ZZ X) sm_PP true C 50 0 [vP (13, i0), vI x1] [] s =
  if (s.1 13 i0 9) < 15 then
   (if (s.2.2.1 13 i0 7).1 = 10 then
    (sm_bI (C 8 [vP (s.2.2.1 13 i0 7), vI x1] s) sm_tw fun y1 s2 =>
   sm_ix (s.1 13 i0 9) 15 fun z3 =>
   sm_ix ((sI s2 43 i0 z3 ((s.1 13 i0 8) - y1)).1 13 i0 9) 15 fun z4 =>
   sm_ix ((sI (sI s2 43 i0 z3 ((s.1 13 i0 8) - y1)) 44 i0 z4 ((sI s2 43 i0 z3 ((s.1 13 i0 8) - y1)).1 13 i0 10)).1 13 i0 9) 15 fun z5 =>
   if ((sI (sI (sI (sI s2 43 i0 z3 ((s.1 13 i0 8) - y1)) 44 i0 z4 ((sI s2 43 i0 z3 ((s.1 13 i0 8) - y1)).1 13 i0 10)) 13 i0 8 (((sI (sI s2 43 i0 z3 ((s.1 13 i0 8) - y1)) 44 i0 z4 ((sI s2 43 i0 z3 ((s.1 13 i0 8) - y1)).1 13 i0 10)).1 43 i0 z5) + 24)) 13 i0 9 (((sI (sI (sI s2 43 i0 z3 ((s.1 13 i0 8) - y1)) 44 i0 z4 ((sI s2 43 i0 z3 ((s.1 13 i0 8) - y1)).1 13 i0 10)) 13 i0 8 (((sI (sI s2 43 i0 z3 ((s.1 13 i0 8) - y1)) 44 i0 z4 ((sI s2 43 i0 z3 ((s.1 13 i0 8) - y1)).1 13 i0 10)).1 43 i0 z5) + 24)).1 13 i0 9) + 1)).2.2.1 13 i0 7).1 = 10 then
    (sm_bI (C 11 [vP ((sI (sI (sI (sI s2 43 i0 z3 ((s.1 13 i0 8) - y1)) 44 i0 z4 ((sI s2 43 i0 z3 ((s.1 13 i0 8) - y1)).1 13 i0 10)) 13 i0 8 (((sI (sI s2 43 i0 z3 ((s.1 13 i0 8) - y1)) 44 i0 z4 ((sI s2 43 i0 z3 ((s.1 13 i0 8) - y1)).1 13 i0 10)).1 43 i0 z5) + 24)) 13 i0 9 (((sI (sI (sI s2 43 i0 z3 ((s.1 13 i0 8) - y1)) 44 i0 z4 ((sI s2 43 i0 z3 ((s.1 13 i0 8) - y1)).1 13 i0 10)) 13 i0 8 (((sI (sI s2 43 i0 z3 ((s.1 13 i0 8) - y1)) 44 i0 z4 ((sI s2 43 i0 z3 ((s.1 13 i0 8) - y1)).1 13 i0 10)).1 43 i0 z5) + 24)).1 13 i0 9) + 1)).2.2.1 13 i0 7), vI x1] (sI (sI (sI (sI s2 43 i0 z3 ((s.1 13 i0 8) - y1)) 44 i0 z4 ((sI s2 43 i0 z3 ((s.1 13 i0 8) - y1)).1 13 i0 10)) 13 i0 8 (((sI (sI s2 43 i0 z3 ((s.1 13 i0 8) - y1)) 44 i0 z4 ((sI s2 43 i0 z3 ((s.1 13 i0 8) - y1)).1 13 i0 10)).1 43 i0 z5) + 24)) 13 i0 9 (((sI (sI (sI s2 43 i0 z3 ((s.1 13 i0 8) - y1)) 44 i0 z4 ((sI s2 43 i0 z3 ((s.1 13 i0 8) - y1)).1 13 i0 10)) 13 i0 8 (((sI (sI s2 43 i0 z3 ((s.1 13 i0 8) - y1)) 44 i0 z4 ((sI s2 43 i0 z3 ((s.1 13 i0 8) - y1)).1 13 i0 10)).1 43 i0 z5) + 24)).1 13 i0 9) + 1))) sm_tw fun y6 s7 =>
   some (some none, (sI s7 13 i0 10 y6)))
   else none)
   else none)
  else
   (sm_bV (C 52 [vP (13, i0), vI 9] s) sm_tw fun s9 =>
   some (some none, s9)) :=
  (sm_go_x (cd := cd_X3_enter) rfl h_X3_enter 400 0 _ _ _).trans rfl
theorem h_X3_leave : sm_chain 0 cd_X3_leave = true := by decide +kernel
set_option maxRecDepth 20000 in
theorem q_X3_leave_0 (X : Nat × (Nat → Int32)) (C : sm_C) (i0 : Nat) (x1 : Int32) (s : sm_S) : sm_go (sm_ZZ X) sm_PP true C 51 0 [vP (13, i0), vI x1] [] s =
  sm_bI (C 47 [vP (13, i0)] s) sm_tw fun y1 s2 =>
  if 0 < ((sI s2 13 i0 8 y1).1 13 i0 9) then
   (sm_ix ((sI (sI s2 13 i0 8 y1) 13 i0 9 (((sI s2 13 i0 8 y1).1 13 i0 9) - 1)).1 13 i0 9) 15 fun z3 =>
   sm_go (sm_ZZ X) sm_PP true C 51 38 [vP (13, i0), vI x1] [] (sI (sI (sI s2 13 i0 8 y1) 13 i0 9 (((sI s2 13 i0 8 y1).1 13 i0 9) - 1)) 13 i0 10 ((sI (sI s2 13 i0 8 y1) 13 i0 9 (((sI s2 13 i0 8 y1).1 13 i0 9) - 1)).1 44 i0 z3)))
  else
   (sm_go (sm_ZZ X) sm_PP true C 51 38 [vP (13, i0), vI x1] [] (sI s2 13 i0 8 y1)) :=
  (sm_go_x (cd := cd_X3_leave) rfl h_X3_leave 400 0 _ _ _).trans rfl
set_option maxRecDepth 20000 in
theorem q_X3_leave_38 (X : Nat × (Nat → Int32)) (C : sm_C) (i0 : Nat) (x1 : Int32) (s : sm_S) : sm_go (sm_ZZ X) sm_PP true C 51 38 [vP (13, i0), vI x1] [] s =
  if 0 < (s.1 13 i0 9) then
   (sm_bV (C 45 [vP (13, i0), vI x1] s) sm_tw fun s2 =>
   some (some none, s2))
  else
   (some (some none, (sI (sI s 13 i0 14 x1) 13 i0 12 0))) :=
  (sm_go_x (cd := cd_X3_leave) rfl h_X3_leave 400 38 _ _ _).trans rfl
theorem h_X3_end : sm_chain 0 cd_X3_end = true := by decide +kernel
set_option maxRecDepth 20000 in
theorem q_X3_end_0 (X : Nat × (Nat → Int32)) (C : sm_C) (i0 : Nat) (x1 : Int32) (s : sm_S) : sm_go (sm_ZZ X) sm_PP true C 52 0 [vP (13, i0), vI x1] [] s =
  some (some none, (sI (sI s 13 i0 12 x1) 13 i0 13 (((sI s 13 i0 12 x1).1 13 i0 10) - 1))) :=
  (sm_go_x (cd := cd_X3_end) rfl h_X3_end 400 0 _ _ _).trans rfl
theorem h_X3_raise : sm_chain 0 cd_X3_raise = true := by decide +kernel
set_option maxRecDepth 20000 in
theorem q_X3_raise_0 (X : Nat × (Nat → Int32)) (C : sm_C) (i0 : Nat) (x1 : Int32) (s : sm_S) : sm_go (sm_ZZ X) sm_PP true C 53 0 [vP (13, i0), vI x1] [] s =
  sm_bV (C 54 [vP (13, i0), vI x1, vI x1] s) sm_tw fun s2 =>
  some (some none, s2) :=
  (sm_go_x (cd := cd_X3_raise) rfl h_X3_raise 400 0 _ _ _).trans rfl
theorem h_X3_raiseWith : sm_chain 0 cd_X3_raiseWith = true := by decide +kernel
set_option maxRecDepth 20000 in
theorem q_X3_raiseWith_0 (X : Nat × (Nat → Int32)) (C : sm_C) (i0 : Nat) (x1 : Int32) (x2 : Int32) (s : sm_S) : sm_go (sm_ZZ X) sm_PP true C 54 0 [vP (13, i0), vI x1, vI x2, vU, vU, vU] [] s =
  if (s.1 13 i0 17) < 600 then
   (sm_bI (C 307 [vI ((sI s 13 i0 17 ((s.1 13 i0 17) + 1)).1 13 i0 9), vI 15] (sI s 13 i0 17 ((s.1 13 i0 17) + 1))) sm_tw fun y1 s2 =>
   sm_go (sm_ZZ X) sm_PP true C 54 47 [vP (13, i0), vI x1, vI x2, vI (((sI s 13 i0 17 ((s.1 13 i0 17) + 1)).1 13 i0 10) - 1), vI (y1 - 1), vU] [] s2)
  else
   (sm_bV (C 52 [vP (13, i0), vI 8] s) sm_tw fun s4 =>
   some (some none, s4)) :=
  (sm_go_x (cd := cd_X3_raiseWith) rfl h_X3_raiseWith 400 0 _ _ _).trans rfl
set_option maxRecDepth 20000 in
theorem q_X3_raiseWith_47 (X : Nat × (Nat → Int32)) (C : sm_C) (i0 : Nat) (x1 : Int32) (x2 : Int32) (x3 : Int32) (x4 : Int32) (d5 : sm_V) (s : sm_S) : sm_go (sm_ZZ X) sm_PP true C 54 47 [vP (13, i0), vI x1, vI x2, vI x3, vI x4, d5] [] s =
  if x4 < 0 then
   (sm_bV (C 52 [vP (13, i0), vI x1] (sI s 13 i0 14 x2)) sm_tw fun s2 =>
   some (some none, s2))
  else
   (if (s.2.2.1 13 i0 7).1 = 10 then
    (sm_bI (C 22 [vP (s.2.2.1 13 i0 7), vI x3] s) sm_tw fun y3 s4 =>
   if y3 = (-1) then
    (sm_ix x4 15 fun z5 =>
    sm_go (sm_ZZ X) sm_PP true C 54 47 [vP (13, i0), vI x1, vI x2, vI ((s4.1 44 i0 z5) - 1), vI (x4 + (-1)), vI y3] [] s4)
   else
    (sm_ix x4 15 fun z6 =>
    sm_bV (C 45 [vP (13, i0), vI x2] (sI (sI s4 13 i0 9 (x4 + 1)) 13 i0 8 (((sI s4 13 i0 9 (x4 + 1)).1 43 i0 z6) + 24))) sm_tw fun s8 =>
    some (some none, (sI s8 13 i0 10 y3))))
   else none) :=
  (sm_go_x (cd := cd_X3_raiseWith) rfl h_X3_raiseWith 400 47 _ _ _).trans rfl
theorem h_X3_doFree : sm_chain 0 cd_X3_doFree = true := by decide +kernel
set_option maxRecDepth 20000 in
theorem q_X3_doFree_0 (X : Nat × (Nat → Int32)) (C : sm_C) (i0 : Nat) (x1 : Int32) (x2 : Int32) (s : sm_S) : sm_go (sm_ZZ X) sm_PP true C 55 0 [vP (13, i0), vI x1, vI x2] [] s =
  if x1 = 0 then
   (some (some none, (sI s 13 i0 10 x2)))
  else if x1 = 1 then
   (sm_bI (C 46 [vP (13, i0)] s) sm_tw fun y1 s2 =>
   some (some none, s2))
  else if x1 = 2 then
   (sm_bI (C 46 [vP (13, i0)] s) sm_tw fun y3 s4 =>
   sm_bV (C 49 [vP (13, i0), vI x2, vI y3] s4) sm_tw fun s6 =>
   some (some none, s6))
  else (sm_bV (C 51 [vP (13, i0), vI 0] s) sm_tw fun s8 =>
   some (some none, s8)) :=
  (sm_go_x (cd := cd_X3_doFree) rfl h_X3_doFree 400 0 _ _ _).trans rfl
theorem h_X3_doAct : sm_chain 0 cd_X3_doAct = true := by decide +kernel
set_option maxRecDepth 20000 in
theorem q_X3_doAct_0 (X : Nat × (Nat → Int32)) (C : sm_C) (i0 : Nat) (x1 : Int32) (x2 : Int32) (s : sm_S) : sm_go (sm_ZZ X) sm_PP true C 56 0 [vP (13, i0), vI x1, vI x2] [] s =
  if x1 = 4 then
   (sm_bV (C 45 [vP (13, i0), vI x2] s) sm_tw fun s2 =>
   some (some none, s2))
  else if x1 = 5 then
   (sm_bI (C 48 [vP (13, i0), vI x2] s) sm_tw fun y3 s4 =>
   sm_bV (C 45 [vP (13, i0), vI y3] s4) sm_tw fun s6 =>
   some (some none, s6))
  else if x1 = 6 then
   (sm_bI (C 46 [vP (13, i0)] s) sm_tw fun y7 s8 =>
   sm_bV (C 49 [vP (13, i0), vI x2, vI y7] s8) sm_tw fun s10 =>
   some (some none, s10))
  else if x1 = 7 then
   (sm_bV (C 57 [vP (13, i0), vI x1] s) sm_tw fun s12 =>
   some (some none, s12))
  else if x1 = 8 then
   (sm_bV (C 57 [vP (13, i0), vI x1] s) sm_tw fun s14 =>
   some (some none, s14))
  else if x1 = 9 then
   (sm_bV (C 57 [vP (13, i0), vI x1] s) sm_tw fun s16 =>
   some (some none, s16))
  else if x1 = 10 then
   (sm_bV (C 57 [vP (13, i0), vI x1] s) sm_tw fun s18 =>
   some (some none, s18))
  else if x1 = 11 then
   (sm_bV (C 57 [vP (13, i0), vI x1] s) sm_tw fun s20 =>
   some (some none, s20))
  else if x1 = 12 then
   (sm_bV (C 57 [vP (13, i0), vI x1] s) sm_tw fun s22 =>
   some (some none, s22))
  else if x1 = 13 then
   (sm_bV (C 58 [vP (13, i0), vI x2] s) sm_tw fun s24 =>
   some (some none, s24))
  else if x1 = 14 then
   (sm_bV (C 59 [vP (13, i0), vI x2] s) sm_tw fun s26 =>
   some (some none, s26))
  else if x1 = 15 then
   (sm_bV (C 60 [vP (13, i0)] s) sm_tw fun s28 =>
   some (some none, s28))
  else if x1 = 16 then
   (sm_bV (C 61 [vP (13, i0)] s) sm_tw fun s30 =>
   some (some none, s30))
  else if x1 = 17 then
   (sm_bV (C 62 [vP (13, i0), vI x2] s) sm_tw fun s32 =>
   some (some none, s32))
  else if x1 = 18 then
   (sm_bV (C 63 [vP (13, i0), vI x2] s) sm_tw fun s34 =>
   some (some none, s34))
  else if x1 = 19 then
   (sm_bV (C 64 [vP (13, i0)] s) sm_tw fun s36 =>
   some (some none, s36))
  else if x1 = 20 then
   (sm_bV (C 65 [vP (13, i0), vI x2] s) sm_tw fun s38 =>
   some (some none, s38))
  else if x1 = 21 then
   (sm_bV (C 66 [vP (13, i0), vI x2] s) sm_tw fun s40 =>
   some (some none, s40))
  else if x1 = 22 then
   (sm_bI (C 46 [vP (13, i0)] s) sm_tw fun y41 s42 =>
   sm_bV (C 67 [vP (13, i0), vI y41] s42) sm_tw fun s44 =>
   some (some none, s44))
  else if x1 = 23 then
   (sm_bV (C 68 [vP (13, i0)] s) sm_tw fun s46 =>
   some (some none, s46))
  else if x1 = 24 then
   (if x2 = 1 then
    (sm_bI (C 46 [vP (13, i0)] s) sm_tw fun y47 s48 =>
    sm_bV (C 51 [vP (13, i0), vI y47] s48) sm_tw fun s50 =>
    some (some none, s50))
   else
    (sm_bV (C 51 [vP (13, i0), vI 0] s) sm_tw fun s52 =>
    some (some none, s52)))
  else if x1 = 25 then
   (sm_bI (C 46 [vP (13, i0)] s) sm_tw fun y53 s54 =>
   sm_bV (C 54 [vP (13, i0), vI 6, vI y53] s54) sm_tw fun s56 =>
   some (some none, s56))
  else if x1 = 26 then
   (sm_bI (C 46 [vP (13, i0)] s) sm_tw fun y57 s58 =>
   if y57 = 0 then
    (some (some none, (sI s58 13 i0 10 x2)))
   else
    (some (some none, (sI s58 13 i0 10 (s58.1 13 i0 10)))))
  else if x1 = 27 then
   (sm_bV (C 50 [vP (13, i0), vI x2] s) sm_tw fun s60 =>
   some (some none, s60))
  else if x1 = 28 then
   (sm_bI (C 46 [vP (13, i0)] s) sm_tw fun y61 s62 =>
   sm_bP (C 33 [vP (12, i0), vI y61] s62) sm_tw fun y63 s64 =>
   sm_bI (C 164 [vP y63] s64) sm_tw fun y65 s66 =>
   sm_bV (C 45 [vP (13, i0), vI y65] s66) sm_tw fun s68 =>
   some (some none, s68))
  else if x1 = 29 then
   (sm_bV (C 69 [vP (13, i0)] s) sm_tw fun s70 =>
   some (some none, s70))
  else if x1 = 30 then
   (sm_bV (C 70 [vP (13, i0)] s) sm_tw fun s72 =>
   some (some none, s72))
  else if x1 = 31 then
   (sm_bV (C 71 [vP (13, i0)] s) sm_tw fun s74 =>
   some (some none, s74))
  else if x1 = 32 then
   (sm_bV (C 45 [vP (13, i0), vI (s.1 12 i0 4)] s) sm_tw fun s76 =>
   some (some none, s76))
  else (sm_bV (C 57 [vP (13, i0), vI x1] s) sm_tw fun s78 =>
   some (some none, s78)) :=
  (sm_go_x (cd := cd_X3_doAct) rfl h_X3_doAct 400 0 _ _ _).trans rfl
theorem h_X3_doSign : sm_chain 0 cd_X3_doSign = true := by decide +kernel
set_option maxRecDepth 20000 in
theorem q_X3_doSign_0 (X : Nat × (Nat → Int32)) (C : sm_C) (i0 : Nat) (x1 : Int32) (s : sm_S) : sm_go (sm_ZZ X) sm_PP true C 57 0 [vP (13, i0), vI x1, vU, vU] [] s =
  sm_bI (C 46 [vP (13, i0)] s) sm_tw fun y1 s2 =>
  sm_bI (C 46 [vP (13, i0)] s2) sm_tw fun y3 s4 =>
  if x1 = 7 then
   (sm_bV (C 45 [vP (13, i0), vI (y3 + y1)] s4) sm_tw fun s6 =>
   some (some none, s6))
  else if x1 = 8 then
   (sm_bV (C 45 [vP (13, i0), vI (y3 - y1)] s4) sm_tw fun s8 =>
   some (some none, s8))
  else if x1 = 9 then
   (sm_bV (C 45 [vP (13, i0), vI (y3 * y1)] s4) sm_tw fun s10 =>
   some (some none, s10))
  else if x1 = 10 then
   (if y3 = y1 then
    (sm_bV (C 45 [vP (13, i0), vI 1] s4) sm_tw fun s12 =>
    some (some none, s12))
   else
    (sm_bV (C 45 [vP (13, i0), vI 0] s4) sm_tw fun s14 =>
    some (some none, s14)))
  else if x1 = 11 then
   (if y3 = y1 then
    (sm_bV (C 45 [vP (13, i0), vI 0] s4) sm_tw fun s16 =>
    some (some none, s16))
   else
    (sm_bV (C 45 [vP (13, i0), vI 1] s4) sm_tw fun s18 =>
    some (some none, s18)))
  else (if y3 < y1 then
    (sm_bV (C 45 [vP (13, i0), vI 1] s4) sm_tw fun s20 =>
    some (some none, s20))
   else
    (sm_bV (C 45 [vP (13, i0), vI 0] s4) sm_tw fun s22 =>
    some (some none, s22))) :=
  (sm_go_x (cd := cd_X3_doSign) rfl h_X3_doSign 400 0 _ _ _).trans rfl
theorem h_X3_doAs : sm_chain 0 cd_X3_doAs = true := by decide +kernel
set_option maxRecDepth 20000 in
theorem q_X3_doAs_0 (X : Nat × (Nat → Int32)) (C : sm_C) (i0 : Nat) (x1 : Int32) (s : sm_S) : sm_go (sm_ZZ X) sm_PP true C 58 0 [vP (13, i0), vI x1, vU] [] s =
  sm_bI (C 46 [vP (13, i0)] s) sm_tw fun y1 s2 =>
  if y1 = 0 then
   (sm_bV (C 45 [vP (13, i0), vI y1] s2) sm_tw fun s4 =>
   some (some none, s4))
  else
   (sm_bI (C 165 [vP (20, i0), vI y1] s2) sm_tw fun y5 s6 =>
   sm_bI (C 27 [vI y5, vI x1] s6) sm_tw fun y7 s8 =>
   if y7 = 0 then
    (sm_bV (C 53 [vP (13, i0), vI 4] s8) sm_tw fun s10 =>
    some (some none, s10))
   else
    (sm_bV (C 45 [vP (13, i0), vI y1] s8) sm_tw fun s12 =>
    some (some none, s12))) :=
  (sm_go_x (cd := cd_X3_doAs) rfl h_X3_doAs 400 0 _ _ _).trans rfl
theorem h_X3_doIs : sm_chain 0 cd_X3_doIs = true := by decide +kernel
set_option maxRecDepth 20000 in
theorem q_X3_doIs_0 (X : Nat × (Nat → Int32)) (C : sm_C) (i0 : Nat) (x1 : Int32) (s : sm_S) : sm_go (sm_ZZ X) sm_PP true C 59 0 [vP (13, i0), vI x1, vU] [] s =
  sm_bI (C 46 [vP (13, i0)] s) sm_tw fun y1 s2 =>
  if y1 = 0 then
   (sm_bV (C 45 [vP (13, i0), vI 0] s2) sm_tw fun s4 =>
   some (some none, s4))
  else
   (sm_bI (C 165 [vP (20, i0), vI y1] s2) sm_tw fun y5 s6 =>
   sm_bI (C 27 [vI y5, vI x1] s6) sm_tw fun y7 s8 =>
   if y7 = 0 then
    (sm_bV (C 45 [vP (13, i0), vI 0] s8) sm_tw fun s10 =>
    some (some none, s10))
   else
    (sm_bV (C 45 [vP (13, i0), vI 1] s8) sm_tw fun s12 =>
    some (some none, s12))) :=
  (sm_go_x (cd := cd_X3_doIs) rfl h_X3_doIs 400 0 _ _ _).trans rfl
theorem h_X3_doAt : sm_chain 0 cd_X3_doAt = true := by decide +kernel
set_option maxRecDepth 20000 in
theorem q_X3_doAt_0 (X : Nat × (Nat → Int32)) (C : sm_C) (i0 : Nat) (s : sm_S) : sm_go (sm_ZZ X) sm_PP true C 60 0 [vP (13, i0), vU, vU] [] s =
  sm_bI (C 46 [vP (13, i0)] s) sm_tw fun y1 s2 =>
  sm_bI (C 46 [vP (13, i0)] s2) sm_tw fun y3 s4 =>
  sm_bP (C 162 [vP (20, i0), vI y3] s4) sm_tw fun y5 s6 =>
  if y5.1 = 0 then
   (sm_bV (C 53 [vP (13, i0), vI 1] s6) sm_tw fun s8 =>
   some (some none, s8))
  else
   (if y5.1 = 16 then
    (sm_bI (C 121 [vP y5, vI y1] s6) sm_tw fun y9 s10 =>
   if y9 = 0 then
    (sm_bV (C 53 [vP (13, i0), vI 2] s10) sm_tw fun s12 =>
    some (some none, s12))
   else
    (if y5.1 = 16 then
     (sm_bP (C 122 [vP y5, vI y1] s10) sm_tw fun y13 s14 =>
    sm_bI (C 163 [vP y13] s14) sm_tw fun y15 s16 =>
    sm_bV (C 45 [vP (13, i0), vI y15] s16) sm_tw fun s18 =>
    some (some none, s18))
    else none))
   else none) :=
  (sm_go_x (cd := cd_X3_doAt) rfl h_X3_doAt 400 0 _ _ _).trans rfl
theorem h_X3_doPut : sm_chain 0 cd_X3_doPut = true := by decide +kernel
set_option maxRecDepth 20000 in
theorem q_X3_doPut_0 (X : Nat × (Nat → Int32)) (C : sm_C) (i0 : Nat) (s : sm_S) : sm_go (sm_ZZ X) sm_PP true C 61 0 [vP (13, i0), vU, vU, vU] [] s =
  sm_bI (C 46 [vP (13, i0)] s) sm_tw fun y1 s2 =>
  sm_bP (C 161 [vP (20, i0), vI y1] s2) sm_tw fun y3 s4 =>
  sm_bI (C 46 [vP (13, i0)] s4) sm_tw fun y5 s6 =>
  sm_bI (C 46 [vP (13, i0)] s6) sm_tw fun y7 s8 =>
  sm_bP (C 162 [vP (20, i0), vI y7] s8) sm_tw fun y9 s10 =>
  if y9.1 = 0 then
   (sm_bV (C 53 [vP (13, i0), vI 1] s10) sm_tw fun s12 =>
   some (some none, s12))
  else
   (if y9.1 = 16 then
    (sm_bI (C 121 [vP y9, vI y5] s10) sm_tw fun y13 s14 =>
   if y13 = 0 then
    (sm_bV (C 53 [vP (13, i0), vI 2] s14) sm_tw fun s16 =>
    some (some none, s16))
   else
    (if y9.1 = 16 then
     (sm_bI (C 124 [vP y9, vP y3] s14) sm_tw fun y17 s18 =>
    if y17 = 0 then
     (sm_bV (C 53 [vP (13, i0), vI 5] s18) sm_tw fun s20 =>
     some (some none, s20))
    else
     (if y9.1 = 16 then
      (sm_bV (C 123 [vP y9, vI y5, vP y3] s18) sm_tw fun s22 =>
     some (some none, s22))
     else none))
    else none))
   else none) :=
  (sm_go_x (cd := cd_X3_doPut) rfl h_X3_doPut 400 0 _ _ _).trans rfl
theorem h_X3_doField : sm_chain 0 cd_X3_doField = true := by decide +kernel
set_option maxRecDepth 20000 in
theorem q_X3_doField_0 (X : Nat × (Nat → Int32)) (C : sm_C) (i0 : Nat) (x1 : Int32) (s : sm_S) : sm_go (sm_ZZ X) sm_PP true C 62 0 [vP (13, i0), vI x1, vU] [] s =
  sm_bI (C 46 [vP (13, i0)] s) sm_tw fun y1 s2 =>
  sm_bP (C 161 [vP (20, i0), vI y1] s2) sm_tw fun y3 s4 =>
  if y3.1 = 0 then
   (sm_bV (C 53 [vP (13, i0), vI 1] s4) sm_tw fun s6 =>
   some (some none, s6))
  else
   (if y3.1 = 19 then
    (sm_bI (C 149 [vP y3, vI x1] s4) sm_tw fun y7 s8 =>
   sm_bV (C 45 [vP (13, i0), vI y7] s8) sm_tw fun s10 =>
   some (some none, s10))
   else none) :=
  (sm_go_x (cd := cd_X3_doField) rfl h_X3_doField 400 0 _ _ _).trans rfl
theorem h_X3_doSetField : sm_chain 0 cd_X3_doSetField = true := by decide +kernel
set_option maxRecDepth 20000 in
theorem q_X3_doSetField_0 (X : Nat × (Nat → Int32)) (C : sm_C) (i0 : Nat) (x1 : Int32) (s : sm_S) : sm_go (sm_ZZ X) sm_PP true C 63 0 [vP (13, i0), vI x1, vU, vU] [] s =
  sm_bI (C 46 [vP (13, i0)] s) sm_tw fun y1 s2 =>
  sm_bI (C 46 [vP (13, i0)] s2) sm_tw fun y3 s4 =>
  sm_bP (C 161 [vP (20, i0), vI y3] s4) sm_tw fun y5 s6 =>
  if y5.1 = 0 then
   (sm_bV (C 53 [vP (13, i0), vI 1] s6) sm_tw fun s8 =>
   some (some none, s8))
  else
   (if y5.1 = 19 then
    (sm_bV (C 150 [vP y5, vI x1, vI y1] s6) sm_tw fun s10 =>
   some (some none, s10))
   else none) :=
  (sm_go_x (cd := cd_X3_doSetField) rfl h_X3_doSetField 400 0 _ _ _).trans rfl
theorem h_X3_doSize : sm_chain 0 cd_X3_doSize = true := by decide +kernel
set_option maxRecDepth 20000 in
theorem q_X3_doSize_0 (X : Nat × (Nat → Int32)) (C : sm_C) (i0 : Nat) (s : sm_S) : sm_go (sm_ZZ X) sm_PP true C 64 0 [vP (13, i0), vU] [] s =
  sm_bI (C 46 [vP (13, i0)] s) sm_tw fun y1 s2 =>
  sm_bP (C 162 [vP (20, i0), vI y1] s2) sm_tw fun y3 s4 =>
  if y3.1 = 0 then
   (sm_bV (C 53 [vP (13, i0), vI 1] s4) sm_tw fun s6 =>
   some (some none, s6))
  else
   (sm_rq y3 16 fun j7 =>
   sm_bV (C 45 [vP (13, i0), vI (s4.1 16 j7 2)] s4) sm_tw fun s9 =>
   some (some none, s9)) :=
  (sm_go_x (cd := cd_X3_doSize) rfl h_X3_doSize 400 0 _ _ _).trans rfl
theorem h_X3_doNewVehicle : sm_chain 0 cd_X3_doNewVehicle = true := by decide +kernel
set_option maxRecDepth 20000 in
theorem q_X3_doNewVehicle_0 (X : Nat × (Nat → Int32)) (C : sm_C) (i0 : Nat) (x1 : Int32) (s : sm_S) : sm_go (sm_ZZ X) sm_PP true C 65 0 [vP (13, i0), vI x1] [] s =
  sm_bI (C 157 [vP (20, i0)] s) sm_tw fun y1 s2 =>
  if y1 = 0 then
   (sm_bV (C 52 [vP (13, i0), vI 8] s2) sm_tw fun s4 =>
   some (some none, s4))
  else
   (sm_bI (C 159 [vP (20, i0), vI x1] s2) sm_tw fun y5 s6 =>
   sm_bV (C 45 [vP (13, i0), vI y5] s6) sm_tw fun s8 =>
   some (some none, s8)) :=
  (sm_go_x (cd := cd_X3_doNewVehicle) rfl h_X3_doNewVehicle 400 0 _ _ _).trans rfl
theorem h_X3_doNewRow : sm_chain 0 cd_X3_doNewRow = true := by decide +kernel
set_option maxRecDepth 20000 in
theorem q_X3_doNewRow_0 (X : Nat × (Nat → Int32)) (C : sm_C) (i0 : Nat) (x1 : Int32) (s : sm_S) : sm_go (sm_ZZ X) sm_PP true C 66 0 [vP (13, i0), vI x1, vU] [] s =
  sm_bI (C 46 [vP (13, i0)] s) sm_tw fun y1 s2 =>
  sm_bI (C 158 [vP (20, i0), vI y1] s2) sm_tw fun y3 s4 =>
  if y3 = 0 then
   (sm_bV (C 52 [vP (13, i0), vI 8] s4) sm_tw fun s6 =>
   some (some none, s6))
  else
   (if y1 < 0 then
    (sm_bV (C 53 [vP (13, i0), vI 3] s4) sm_tw fun s8 =>
    some (some none, s8))
   else
    (sm_bI (C 160 [vP (20, i0), vI x1, vI y1] s4) sm_tw fun y9 s10 =>
    sm_bV (C 45 [vP (13, i0), vI y9] s10) sm_tw fun s12 =>
    some (some none, s12))) :=
  (sm_go_x (cd := cd_X3_doNewRow) rfl h_X3_doNewRow 400 0 _ _ _).trans rfl
theorem h_X3_say : sm_chain 0 cd_X3_say = true := by decide +kernel
set_option maxRecDepth 20000 in
theorem q_X3_say_0 (X : Nat × (Nat → Int32)) (C : sm_C) (i0 : Nat) (x1 : Int32) (s : sm_S) : sm_go (sm_ZZ X) sm_PP true C 67 0 [vP (13, i0), vI x1] [] s =
  if (s.1 13 i0 16) < 300 then
   (sm_ix (s.1 13 i0 16) 300 fun z1 =>
   some (some none, (sI (sI s 46 i0 z1 x1) 13 i0 16 (((sI s 46 i0 z1 x1).1 13 i0 16) + 1))))
  else
   (some (some none, s)) :=
  (sm_go_x (cd := cd_X3_say) rfl h_X3_say 400 0 _ _ _).trans rfl
theorem h_X3_sayReference : sm_chain 0 cd_X3_sayReference = true := by decide +kernel
set_option maxRecDepth 20000 in
theorem q_X3_sayReference_0 (X : Nat × (Nat → Int32)) (C : sm_C) (i0 : Nat) (s : sm_S) : sm_go (sm_ZZ X) sm_PP true C 68 0 [vP (13, i0), vU, vU] [] s =
  sm_bI (C 46 [vP (13, i0)] s) sm_tw fun y1 s2 =>
  sm_bP (C 162 [vP (20, i0), vI y1] s2) sm_tw fun y3 s4 =>
  if y3.1 = 0 then
   (if y1 = 0 then
    (sm_bV (C 67 [vP (13, i0), vI (-1000)] s4) sm_tw fun s6 =>
    some (some none, s6))
   else
    (sm_bV (C 67 [vP (13, i0), vI (y1 - 1)] s4) sm_tw fun s8 =>
    some (some none, s8)))
  else
   (sm_rq y3 16 fun j9 =>
   sm_bV (C 67 [vP (13, i0), vI ((-1) - (s4.1 16 j9 2))] s4) sm_tw fun s11 =>
   some (some none, s11)) :=
  (sm_go_x (cd := cd_X3_sayReference) rfl h_X3_sayReference 400 0 _ _ _).trans rfl
theorem h_X3_doLay : sm_chain 0 cd_X3_doLay = true := by decide +kernel
set_option maxRecDepth 20000 in
theorem q_X3_doLay_0 (X : Nat × (Nat → Int32)) (C : sm_C) (i0 : Nat) (s : sm_S) : sm_go (sm_ZZ X) sm_PP true C 69 0 [vP (13, i0), vU, vU] [] s =
  sm_bI (C 46 [vP (13, i0)] s) sm_tw fun y1 s2 =>
  sm_bP (C 162 [vP (20, i0), vI y1] s2) sm_tw fun y3 s4 =>
  sm_bI (C 46 [vP (13, i0)] s4) sm_tw fun y5 s6 =>
  sm_bI (C 34 [vP (12, i0), vI y5, vP y3] s6) sm_tw fun y7 s8 =>
  if y7 = 0 then
   (sm_bV (C 45 [vP (13, i0), vI 0] s8) sm_tw fun s10 =>
   some (some none, s10))
  else
   (sm_bV (C 45 [vP (13, i0), vI 1] s8) sm_tw fun s12 =>
   some (some none, s12)) :=
  (sm_go_x (cd := cd_X3_doLay) rfl h_X3_doLay 400 0 _ _ _).trans rfl
theorem h_X3_doHump : sm_chain 0 cd_X3_doHump = true := by decide +kernel
set_option maxRecDepth 20000 in
theorem q_X3_doHump_0 (X : Nat × (Nat → Int32)) (C : sm_C) (i0 : Nat) (s : sm_S) : sm_go (sm_ZZ X) sm_PP true C 70 0 [vP (13, i0), vU, vU] [] s =
  sm_bI (C 46 [vP (13, i0)] s) sm_tw fun y1 s2 =>
  sm_bP (C 162 [vP (20, i0), vI y1] s2) sm_tw fun y3 s4 =>
  sm_bI (C 46 [vP (13, i0)] s4) sm_tw fun y5 s6 =>
  sm_bP (C 162 [vP (20, i0), vI y5] s6) sm_tw fun y7 s8 =>
  if y7.1 = 0 then
   (sm_bV (C 53 [vP (13, i0), vI 1] s8) sm_tw fun s10 =>
   some (some none, s10))
  else
   (if y3.1 = 0 then
    (sm_bV (C 53 [vP (13, i0), vI 1] s8) sm_tw fun s12 =>
    some (some none, s12))
   else
    (if y7.1 = 16 then
     (sm_bI (C 125 [vP y7, vP y3] s8) sm_tw fun y13 s14 =>
    sm_bV (C 45 [vP (13, i0), vI y13] s14) sm_tw fun s16 =>
    some (some none, s16))
    else none)) :=
  (sm_go_x (cd := cd_X3_doHump) rfl h_X3_doHump 400 0 _ _ _).trans rfl
theorem h_X3_doSend : sm_chain 0 cd_X3_doSend = true := by decide +kernel
set_option maxRecDepth 20000 in
theorem q_X3_doSend_0 (X : Nat × (Nat → Int32)) (C : sm_C) (i0 : Nat) (s : sm_S) : sm_go (sm_ZZ X) sm_PP true C 71 0 [vP (13, i0), vU, vU, vU] [] s =
  sm_bI (C 46 [vP (13, i0)] s) sm_tw fun y1 s2 =>
  sm_bI (C 46 [vP (13, i0)] s2) sm_tw fun y3 s4 =>
  sm_bI (C 46 [vP (13, i0)] s4) sm_tw fun y5 s6 =>
  sm_bP (C 162 [vP (20, i0), vI y5] s6) sm_tw fun y7 s8 =>
  if y7.1 = 0 then
   (sm_bV (C 53 [vP (13, i0), vI 1] s8) sm_tw fun s10 =>
   some (some none, s10))
  else
   (sm_bI (C 35 [vP (12, i0), vP y7, vI y3, vI y1] s8) sm_tw fun y11 s12 =>
   sm_bV (C 45 [vP (13, i0), vI y11] s12) sm_tw fun s14 =>
   some (some none, s14)) :=
  (sm_go_x (cd := cd_X3_doSend) rfl h_X3_doSend 400 0 _ _ _).trans rfl
theorem h_X4_clear : sm_chain 0 cd_X4_clear = true := by decide +kernel
set_option maxRecDepth 20000 in
theorem q_X4_clear_0 (X : Nat × (Nat → Int32)) (C : sm_C) (i0 : Nat) (s : sm_S) : sm_go (sm_ZZ X) sm_PP true C 73 0 [vP (14, i0)] [] s =
  some (some none, (sI (sI s 14 i0 3 0) 14 i0 4 0)) :=
  (sm_go_x (cd := cd_X4_clear) rfl h_X4_clear 400 0 _ _ _).trans rfl
theorem h_X4_isFull : sm_chain 0 cd_X4_isFull = true := by decide +kernel
set_option maxRecDepth 20000 in
theorem q_X4_isFull_0 (X : Nat × (Nat → Int32)) (C : sm_C) (i0 : Nat) (s : sm_S) : sm_go (sm_ZZ X) sm_PP true C 74 0 [vP (14, i0)] [] s =
  if (s.1 14 i0 3) < 24 then
   (some (some (some (vI 0)), s))
  else
   (some (some (some (vI 1)), s)) :=
  (sm_go_x (cd := cd_X4_isFull) rfl h_X4_isFull 400 0 _ _ _).trans rfl
theorem h_X4_make : sm_chain 0 cd_X4_make = true := by decide +kernel
set_option maxRecDepth 20000 in
theorem q_X4_make_0 (X : Nat × (Nat → Int32)) (C : sm_C) (i0 : Nat) (x1 : Int64) (x3 : Int32) (s : sm_S) : sm_go (sm_ZZ X) sm_PP true C 75 0 [vP (14, i0), vL x1, vU, vI x3] [] s =
  sm_bI (C 74 [vP (14, i0)] s) sm_tw fun y1 s2 =>
  if y1 = 0 then
   (sm_ix (s2.1 14 i0 3) 24 fun z3 =>
   sm_ix ((sL s2 47 i0 z3 x1).1 14 i0 3) 24 fun z4 =>
   some (some (some (vI (((sI (sI (sL s2 47 i0 z3 x1) 48 i0 z4 x3) 14 i0 3 (((sI (sL s2 47 i0 z3 x1) 48 i0 z4 x3).1 14 i0 3) + 1)).1 14 i0 3) - 1))), (sI (sI (sL s2 47 i0 z3 x1) 48 i0 z4 x3) 14 i0 3 (((sI (sL s2 47 i0 z3 x1) 48 i0 z4 x3).1 14 i0 3) + 1))))
  else
   (some (some (some (vI 0)), s2)) :=
  (sm_go_x (cd := cd_X4_make) rfl h_X4_make 400 0 _ _ _).trans rfl
theorem h_X4_know : sm_chain 0 cd_X4_know = true := by decide +kernel
set_option maxRecDepth 20000 in
theorem q_X4_know_0 (X : Nat × (Nat → Int32)) (C : sm_C) (i0 : Nat) (x1 : Int32) (s : sm_S) : sm_go (sm_ZZ X) sm_PP true C 76 0 [vP (14, i0), vI x1] [] s =
  if (s.1 14 i0 4) < 24 then
   (if x1 < 0 then
    (some (some none, s))
   else
    (if x1 < 24 then
     (sm_ix (s.1 14 i0 4) 24 fun z1 =>
     some (some none, (sI (sI s 49 i0 z1 x1) 14 i0 4 (((sI s 49 i0 z1 x1).1 14 i0 4) + 1))))
    else
     (some (some none, s))))
  else
   (some (some none, s)) :=
  (sm_go_x (cd := cd_X4_know) rfl h_X4_know 400 0 _ _ _).trans rfl
theorem h_X4_knownNow : sm_chain 0 cd_X4_knownNow = true := by decide +kernel
set_option maxRecDepth 20000 in
theorem q_X4_knownNow_0 (X : Nat × (Nat → Int32)) (C : sm_C) (i0 : Nat) (s : sm_S) : sm_go (sm_ZZ X) sm_PP true C 77 0 [vP (14, i0)] [] s =
  some (some (some (vI (s.1 14 i0 4))), s) :=
  (sm_go_x (cd := cd_X4_knownNow) rfl h_X4_knownNow 400 0 _ _ _).trans rfl
theorem h_X4_forgetDownTo : sm_chain 0 cd_X4_forgetDownTo = true := by decide +kernel
set_option maxRecDepth 20000 in
theorem q_X4_forgetDownTo_0 (X : Nat × (Nat → Int32)) (C : sm_C) (i0 : Nat) (x1 : Int32) (s : sm_S) : sm_go (sm_ZZ X) sm_PP true C 78 0 [vP (14, i0), vI x1] [] s =
  sm_bI (C 307 [vI (s.1 14 i0 4), vI x1] s) sm_tw fun y1 s2 =>
  sm_bI (C 306 [vI 0, vI y1] s2) sm_tw fun y3 s4 =>
  some (some none, (sI s4 14 i0 4 y3)) :=
  (sm_go_x (cd := cd_X4_forgetDownTo) rfl h_X4_forgetDownTo 400 0 _ _ _).trans rfl
theorem h_X4_slotOf : sm_chain 0 cd_X4_slotOf = true := by decide +kernel
set_option maxRecDepth 20000 in
theorem q_X4_slotOf_0 (X : Nat × (Nat → Int32)) (C : sm_C) (i0 : Nat) (x1 : Int64) (s : sm_S) : sm_go (sm_ZZ X) sm_PP true C 79 0 [vP (14, i0), vL x1, vU, vU] [] s =
  sm_go (sm_ZZ X) sm_PP true C 79 2 [vP (14, i0), vL x1, vU, vI 0] [] s :=
  (sm_go_x (cd := cd_X4_slotOf) rfl h_X4_slotOf 400 0 _ _ _).trans rfl
set_option maxRecDepth 20000 in
theorem q_X4_slotOf_2 (X : Nat × (Nat → Int32)) (C : sm_C) (i0 : Nat) (x1 : Int64) (d2 : sm_V) (x3 : Int32) (s : sm_S) : sm_go (sm_ZZ X) sm_PP true C 79 2 [vP (14, i0), vL x1, d2, vI x3] [] s =
  if x3 < (s.1 14 i0 4) then
   (sm_ix x3 24 fun z1 =>
   sm_ix (s.1 49 i0 z1) 24 fun z2 =>
   if (lg_cmp (s.2.1 47 i0 z2) x1) = 0 then
    (sm_ix x3 24 fun z3 =>
    some (some (some (vI (s.1 49 i0 z3))), s))
   else
    (sm_go (sm_ZZ X) sm_PP true C 79 2 [vP (14, i0), vL x1, vU, vI (x3 + 1)] [] s))
  else
   (some (some (some (vI (-1))), s)) :=
  (sm_go_x (cd := cd_X4_slotOf) rfl h_X4_slotOf 400 2 _ _ _).trans rfl
theorem h_X4_typeOf : sm_chain 0 cd_X4_typeOf = true := by decide +kernel
set_option maxRecDepth 20000 in
theorem q_X4_typeOf_0 (X : Nat × (Nat → Int32)) (C : sm_C) (i0 : Nat) (x1 : Int32) (s : sm_S) : sm_go (sm_ZZ X) sm_PP true C 80 0 [vP (14, i0), vI x1] [] s =
  if x1 < 0 then
   (some (some (some (vI 38)), s))
  else
   (if x1 < (s.1 14 i0 3) then
    (sm_ix x1 24 fun z1 =>
    some (some (some (vI (s.1 48 i0 z1))), s))
   else
    (some (some (some (vI 38)), s))) :=
  (sm_go_x (cd := cd_X4_typeOf) rfl h_X4_typeOf 400 0 _ _ _).trans rfl
theorem h_X5_read : sm_chain 0 cd_X5_read = true := by decide +kernel
set_option maxRecDepth 20000 in
theorem q_X5_read_0 (X : Nat × (Nat → Int32)) (C : sm_C) (i0 : Nat) (q1 : Nat × Nat) (s : sm_S) : sm_go (sm_ZZ X) sm_PP true C 82 0 [vP (15, i0), vP q1, vU] [] s =
  if ((sR s 15 i0 3 q1).2.2.1 15 i0 3).1 = 10 then
   (sm_bV (C 1 [vP ((sR s 15 i0 3 q1).2.2.1 15 i0 3)] (sR s 15 i0 3 q1)) sm_tw fun s2 =>
  sm_bV (C 84 [vP (15, i0)] (sI (sI (sI (sI s2 15 i0 4 (-1)) 15 i0 11 0) 15 i0 12 (-1)) 15 i0 5 (-1))) sm_tw fun s4 =>
  sm_go (sm_ZZ X) sm_PP true C 82 38 [vP (15, i0), vP q1, vI 0] [] s4)
  else none :=
  (sm_go_x (cd := cd_X5_read) rfl h_X5_read 400 0 _ _ _).trans rfl
set_option maxRecDepth 20000 in
theorem q_X5_read_38 (X : Nat × (Nat → Int32)) (C : sm_C) (i0 : Nat) (d1 : sm_V) (x2 : Int32) (s : sm_S) : sm_go (sm_ZZ X) sm_PP true C 82 38 [vP (15, i0), d1, vI x2] [] s =
  if 800 < x2 then
   (some (some none, s))
  else
   (if (s.1 15 i0 11) = 0 then
    (if x2 = 0 then
     (sm_go (sm_ZZ X) sm_PP true C 82 65 [vP (15, i0), vU, vI x2] [] s)
    else
     (if (s.1 15 i0 6) = 6 then
      (some (some none, s))
     else
      (sm_go (sm_ZZ X) sm_PP true C 82 65 [vP (15, i0), vU, vI x2] [] s)))
   else
    (some (some none, s))) :=
  (sm_go_x (cd := cd_X5_read) rfl h_X5_read 400 38 _ _ _).trans rfl
set_option maxRecDepth 20000 in
theorem q_X5_read_65 (X : Nat × (Nat → Int32)) (C : sm_C) (i0 : Nat) (d1 : sm_V) (x2 : Int32) (s : sm_S) : sm_go (sm_ZZ X) sm_PP true C 82 65 [vP (15, i0), d1, vI x2] [] s =
  sm_bV (C 88 [vP (15, i0)] s) sm_tw fun s2 =>
  sm_bV (C 95 [vP (15, i0), vI 0] s2) sm_tw fun s4 =>
  if (s4.2.2.1 15 i0 3).1 = 10 then
   (sm_bI (C 13 [vP (s4.2.2.1 15 i0 3), vI 3, vI 0, vI (-1)] s4) sm_tw fun y5 s6 =>
  sm_go (sm_ZZ X) sm_PP true C 82 38 [vP (15, i0), vU, vI (x2 + 1)] [] s6)
  else none :=
  (sm_go_x (cd := cd_X5_read) rfl h_X5_read 400 65 _ _ _).trans rfl
theorem h_X5_refuse : sm_chain 0 cd_X5_refuse = true := by decide +kernel
set_option maxRecDepth 20000 in
theorem q_X5_refuse_0 (X : Nat × (Nat → Int32)) (C : sm_C) (i0 : Nat) (x1 : Int32) (x2 : Int32) (s : sm_S) : sm_go (sm_ZZ X) sm_PP true C 83 0 [vP (15, i0), vI x1, vI x2] [] s =
  if (s.1 15 i0 11) = 0 then
   (some (some none, (sI (sI (sI (sI s 15 i0 11 x1) 15 i0 12 x2) 15 i0 6 0) 15 i0 9 0)))
  else
   (some (some none, s)) :=
  (sm_go_x (cd := cd_X5_refuse) rfl h_X5_refuse 400 0 _ _ _).trans rfl
theorem h_X5_pass : sm_chain 0 cd_X5_pass = true := by decide +kernel
set_option maxRecDepth 20000 in
theorem q_X5_pass_0 (X : Nat × (Nat → Int32)) (C : sm_C) (i0 : Nat) (s : sm_S) : sm_go (sm_ZZ X) sm_PP true C 84 0 [vP (15, i0), vU, vU] [] s =
  if (s.1 15 i0 11) = 0 then
   (if 800 < ((s.1 15 i0 5) + 1) then
    (sm_go (sm_ZZ X) sm_PP true C 84 34 [vP (15, i0), vI ((s.1 15 i0 5) + 1), vU] [] (sI (sI s 15 i0 11 5) 15 i0 12 ((sI s 15 i0 11 5).1 15 i0 7)))
   else
    (sm_go (sm_ZZ X) sm_PP true C 84 34 [vP (15, i0), vI ((s.1 15 i0 5) + 1), vU] [] s))
  else
   (sm_go (sm_ZZ X) sm_PP true C 84 34 [vP (15, i0), vI ((s.1 15 i0 5) + 1), vU] [] s) :=
  (sm_go_x (cd := cd_X5_pass) rfl h_X5_pass 400 0 _ _ _).trans rfl
set_option maxRecDepth 20000 in
theorem q_X5_pass_34 (X : Nat × (Nat → Int32)) (C : sm_C) (i0 : Nat) (x1 : Int32) (d2 : sm_V) (s : sm_S) : sm_go (sm_ZZ X) sm_PP true C 84 34 [vP (15, i0), vI x1, d2] [] s =
  if (s.1 15 i0 11) = 0 then
   (if x1 < 0 then
    (sm_go (sm_ZZ X) sm_PP true C 84 61 [vP (15, i0), vI x1, vU] [vI 0] s)
   else
    (if x1 < (s.1 17 i0 7) then
     (sm_go (sm_ZZ X) sm_PP true C 84 61 [vP (15, i0), vI x1, vU] [vI 1] s)
    else
     (sm_go (sm_ZZ X) sm_PP true C 84 61 [vP (15, i0), vI x1, vU] [vI 0] s)))
  else
   (sm_go (sm_ZZ X) sm_PP true C 84 61 [vP (15, i0), vI x1, vU] [vI 0] s) :=
  (sm_go_x (cd := cd_X5_pass) rfl h_X5_pass 400 34 _ _ _).trans rfl
set_option maxRecDepth 20000 in
theorem q_X5_pass_61 (X : Nat × (Nat → Int32)) (C : sm_C) (i0 : Nat) (x1 : Int32) (d2 : sm_V) (x100 : Int32) (s : sm_S) : sm_go (sm_ZZ X) sm_PP true C 84 61 [vP (15, i0), vI x1, d2] [vI x100] s =
  if x100 = 0 then
   (sm_go (sm_ZZ X) sm_PP true C 84 80 [vP (15, i0), vI x1, vI x100] [vI 0, vP (15, i0)] s)
  else
   (sm_ix x1 802 fun z1 =>
   sm_go (sm_ZZ X) sm_PP true C 84 80 [vP (15, i0), vI x1, vI x100] [vI (s.1 53 i0 z1), vP (15, i0)] s) :=
  (sm_go_x (cd := cd_X5_pass) rfl h_X5_pass 400 61 _ _ _).trans rfl
set_option maxRecDepth 20000 in
theorem q_X5_pass_80 (X : Nat × (Nat → Int32)) (C : sm_C) (i0 : Nat) (x1 : Int32) (x2 : Int32) (q100 : Nat × Nat) (x101 : Int32) (s : sm_S) : sm_go (sm_ZZ X) sm_PP true C 84 80 [vP (15, i0), vI x1, vI x2] [vI x101, vP q100] s =
  sm_rq q100 15 fun j1 =>
  if x2 = 0 then
   (sm_go (sm_ZZ X) sm_PP true C 84 116 [vP (15, i0), vI x1, vI x2] [vI 0, vP (15, i0)] (sI s 15 j1 6 x101))
  else
   (if (x1 + 1) < ((sI s 15 j1 6 x101).1 17 i0 7) then
    (sm_ix (x1 + 1) 802 fun z2 =>
    sm_go (sm_ZZ X) sm_PP true C 84 116 [vP (15, i0), vI x1, vI x2] [vI ((sI s 15 j1 6 x101).1 53 i0 z2), vP (15, i0)] (sI s 15 j1 6 x101))
   else
    (sm_go (sm_ZZ X) sm_PP true C 84 116 [vP (15, i0), vI x1, vI x2] [vI 0, vP (15, i0)] (sI s 15 j1 6 x101))) :=
  (sm_go_x (cd := cd_X5_pass) rfl h_X5_pass 400 80 _ _ _).trans rfl
set_option maxRecDepth 20000 in
theorem q_X5_pass_116 (X : Nat × (Nat → Int32)) (C : sm_C) (i0 : Nat) (x1 : Int32) (x2 : Int32) (q100 : Nat × Nat) (x101 : Int32) (s : sm_S) : sm_go (sm_ZZ X) sm_PP true C 84 116 [vP (15, i0), vI x1, vI x2] [vI x101, vP q100] s =
  sm_rq q100 15 fun j1 =>
  if x2 = 0 then
   (some (some none, (sI s 15 j1 9 x101)))
  else
   (sm_ix x1 802 fun z2 =>
   sm_ix x1 802 fun z3 =>
   some (some none, (sL (sI (sI (sI s 15 j1 9 x101) 15 i0 5 x1) 15 i0 7 ((sI (sI s 15 j1 9 x101) 15 i0 5 x1).1 54 i0 z2)) 15 i0 8 ((sI (sI (sI s 15 j1 9 x101) 15 i0 5 x1) 15 i0 7 ((sI (sI s 15 j1 9 x101) 15 i0 5 x1).1 54 i0 z2)).2.1 55 i0 z3)))) :=
  (sm_go_x (cd := cd_X5_pass) rfl h_X5_pass 400 116 _ _ _).trans rfl
theorem h_X5_expectFit : sm_chain 0 cd_X5_expectFit = true := by decide +kernel
set_option maxRecDepth 20000 in
theorem q_X5_expectFit_0 (X : Nat × (Nat → Int32)) (C : sm_C) (i0 : Nat) (x1 : Int32) (x2 : Int32) (s : sm_S) : sm_go (sm_ZZ X) sm_PP true C 85 0 [vP (15, i0), vI x1, vI x2] [] s =
  if (s.1 15 i0 6) = x1 then
   (if x2 = 0 then
    (sm_bV (C 83 [vP (15, i0), vI 4, vI (s.1 15 i0 7)] s) sm_tw fun s2 =>
    sm_bV (C 84 [vP (15, i0)] s2) sm_tw fun s4 =>
    some (some none, s4))
   else
    (sm_bV (C 84 [vP (15, i0)] s) sm_tw fun s6 =>
    some (some none, s6)))
  else
   (sm_bV (C 83 [vP (15, i0), vI 1, vI (s.1 15 i0 7)] s) sm_tw fun s8 =>
   sm_bV (C 84 [vP (15, i0)] s8) sm_tw fun s10 =>
   some (some none, s10)) :=
  (sm_go_x (cd := cd_X5_expectFit) rfl h_X5_expectFit 400 0 _ _ _).trans rfl
theorem h_X5_expect : sm_chain 0 cd_X5_expect = true := by decide +kernel
set_option maxRecDepth 20000 in
theorem q_X5_expect_0 (X : Nat × (Nat → Int32)) (C : sm_C) (i0 : Nat) (x1 : Int32) (s : sm_S) : sm_go (sm_ZZ X) sm_PP true C 86 0 [vP (15, i0), vI x1] [] s =
  if (s.1 15 i0 6) = x1 then
   (sm_bV (C 84 [vP (15, i0)] s) sm_tw fun s2 =>
   some (some none, s2))
  else
   (sm_bV (C 83 [vP (15, i0), vI 1, vI (s.1 15 i0 7)] s) sm_tw fun s4 =>
   sm_bV (C 84 [vP (15, i0)] s4) sm_tw fun s6 =>
   some (some none, s6)) :=
  (sm_go_x (cd := cd_X5_expect) rfl h_X5_expect 400 0 _ _ _).trans rfl
theorem h_X5_expectOpening : sm_chain 0 cd_X5_expectOpening = true := by decide +kernel
set_option maxRecDepth 20000 in
theorem q_X5_expectOpening_0 (X : Nat × (Nat → Int32)) (C : sm_C) (i0 : Nat) (x1 : Int32) (x2 : Int32) (s : sm_S) : sm_go (sm_ZZ X) sm_PP true C 87 0 [vP (15, i0), vI x1, vI x2] [] s =
  if (s.1 15 i0 6) = x1 then
   (if x2 < 10 then
    (sm_bV (C 84 [vP (15, i0)] s) sm_tw fun s2 =>
    some (some none, s2))
   else
    (sm_bV (C 83 [vP (15, i0), vI 1, vI (s.1 15 i0 7)] s) sm_tw fun s4 =>
    sm_bV (C 84 [vP (15, i0)] s4) sm_tw fun s6 =>
    some (some none, s6)))
  else
   (sm_bV (C 83 [vP (15, i0), vI 1, vI (s.1 15 i0 7)] s) sm_tw fun s8 =>
   sm_bV (C 84 [vP (15, i0)] s8) sm_tw fun s10 =>
   some (some none, s10)) :=
  (sm_go_x (cd := cd_X5_expectOpening) rfl h_X5_expectOpening 400 0 _ _ _).trans rfl
theorem h_X5_readHead : sm_chain 0 cd_X5_readHead = true := by decide +kernel
set_option maxRecDepth 20000 in
theorem q_X5_readHead_0 (X : Nat × (Nat → Int32)) (C : sm_C) (i0 : Nat) (s : sm_S) : sm_go (sm_ZZ X) sm_PP true C 88 0 [vP (15, i0), vU] [] s =
  sm_bV (C 86 [vP (15, i0), vI 200] s) sm_tw fun s2 =>
  sm_bV (C 89 [vP (15, i0)] s2) sm_tw fun s4 =>
  sm_bV (C 73 [vP (14, i0)] s4) sm_tw fun s6 =>
  sm_bV (C 86 [vP (15, i0), vI 40] s6) sm_tw fun s8 =>
  if (s8.1 15 i0 6) = 41 then
   (sm_go (sm_ZZ X) sm_PP true C 88 69 [vP (15, i0), vU] [] s8)
  else
   (sm_bV (C 91 [vP (15, i0)] s8) sm_tw fun s10 =>
   sm_go (sm_ZZ X) sm_PP true C 88 39 [vP (15, i0), vI 0] [] s10) :=
  (sm_go_x (cd := cd_X5_readHead) rfl h_X5_readHead 400 0 _ _ _).trans rfl
set_option maxRecDepth 20000 in
theorem q_X5_readHead_39 (X : Nat × (Nat → Int32)) (C : sm_C) (i0 : Nat) (x1 : Int32) (s : sm_S) : sm_go (sm_ZZ X) sm_PP true C 88 39 [vP (15, i0), vI x1] [] s =
  if 800 < x1 then
   (sm_go (sm_ZZ X) sm_PP true C 88 69 [vP (15, i0), vI x1] [] s)
  else
   (if (s.1 15 i0 6) = 44 then
    (sm_bV (C 84 [vP (15, i0)] s) sm_tw fun s2 =>
    sm_bV (C 91 [vP (15, i0)] s2) sm_tw fun s4 =>
    sm_go (sm_ZZ X) sm_PP true C 88 39 [vP (15, i0), vI (x1 + 1)] [] s4)
   else
    (sm_go (sm_ZZ X) sm_PP true C 88 69 [vP (15, i0), vI x1] [] s)) :=
  (sm_go_x (cd := cd_X5_readHead) rfl h_X5_readHead 400 39 _ _ _).trans rfl
set_option maxRecDepth 20000 in
theorem q_X5_readHead_69 (X : Nat × (Nat → Int32)) (C : sm_C) (i0 : Nat) (d1 : sm_V) (s : sm_S) : sm_go (sm_ZZ X) sm_PP true C 88 69 [vP (15, i0), d1] [] s =
  sm_bV (C 86 [vP (15, i0), vI 41] s) sm_tw fun s2 =>
  if (s2.1 15 i0 6) = 58 then
   (sm_bV (C 84 [vP (15, i0)] s2) sm_tw fun s4 =>
   sm_bI (C 93 [vP (15, i0)] s4) sm_tw fun y5 s6 =>
   if (s4.2.2.1 15 i0 3).1 = 10 then
    (sm_bV (C 7 [vP (s4.2.2.1 15 i0 3), vI (s4.1 15 i0 4), vI y5] s6) sm_tw fun s8 =>
   some (some none, s8))
   else none)
  else
   (some (some none, s2)) :=
  (sm_go_x (cd := cd_X5_readHead) rfl h_X5_readHead 400 69 _ _ _).trans rfl
theorem h_X5_readProcName : sm_chain 0 cd_X5_readProcName = true := by decide +kernel
set_option maxRecDepth 20000 in
theorem q_X5_readProcName_0 (X : Nat × (Nat → Int32)) (C : sm_C) (i0 : Nat) (s : sm_S) : sm_go (sm_ZZ X) sm_PP true C 89 0 [vP (15, i0), vU] [] s =
  if (s.2.2.1 15 i0 3).1 = 10 then
   (sm_bI (C 2 [vP (s.2.2.1 15 i0 3)] s) sm_tw fun y1 s2 =>
  if (s2.1 15 i0 6) = 3 then
   (sm_bI (C 90 [vP (15, i0), vL (s2.2.1 15 i0 8)] s2) sm_tw fun y3 s4 =>
   if y3 = (-1) then
    (if y1 < 0 then
     (sm_bV (C 83 [vP (15, i0), vI 5, vI (s4.1 15 i0 7)] s4) sm_tw fun s6 =>
     some (some none, s6))
    else
     (if y1 < 12 then
      (sm_ix y1 12 fun z7 =>
      if ((sL s4 50 i0 z7 (s4.2.1 15 i0 8)).2.2.1 15 i0 3).1 = 10 then
       (sm_bI (C 5 [vP ((sL s4 50 i0 z7 (s4.2.1 15 i0 8)).2.2.1 15 i0 3)] (sL s4 50 i0 z7 (s4.2.1 15 i0 8))) sm_tw fun y8 s9 =>
      sm_bV (C 84 [vP (15, i0)] (sI s9 15 i0 4 y8)) sm_tw fun s11 =>
      some (some none, s11))
      else none)
     else
      (sm_bV (C 83 [vP (15, i0), vI 5, vI (s4.1 15 i0 7)] s4) sm_tw fun s13 =>
      some (some none, s13))))
   else
    (sm_bV (C 83 [vP (15, i0), vI 3, vI (s4.1 15 i0 7)] s4) sm_tw fun s15 =>
    some (some none, s15)))
  else
   (sm_bV (C 83 [vP (15, i0), vI 1, vI (s2.1 15 i0 7)] s2) sm_tw fun s17 =>
   some (some none, s17)))
  else none :=
  (sm_go_x (cd := cd_X5_readProcName) rfl h_X5_readProcName 400 0 _ _ _).trans rfl
theorem h_X5_findProc : sm_chain 0 cd_X5_findProc = true := by decide +kernel
set_option maxRecDepth 20000 in
theorem q_X5_findProc_0 (X : Nat × (Nat → Int32)) (C : sm_C) (i0 : Nat) (x1 : Int64) (s : sm_S) : sm_go (sm_ZZ X) sm_PP true C 90 0 [vP (15, i0), vL x1, vU, vU, vU] [] s =
  if (s.2.2.1 15 i0 3).1 = 10 then
   (sm_bI (C 2 [vP (s.2.2.1 15 i0 3)] s) sm_tw fun y1 s2 =>
  sm_go (sm_ZZ X) sm_PP true C 90 11 [vP (15, i0), vL x1, vU, vI y1, vI 0] [] s2)
  else none :=
  (sm_go_x (cd := cd_X5_findProc) rfl h_X5_findProc 400 0 _ _ _).trans rfl
set_option maxRecDepth 20000 in
theorem q_X5_findProc_11 (X : Nat × (Nat → Int32)) (C : sm_C) (i0 : Nat) (x1 : Int64) (d2 : sm_V) (x3 : Int32) (x4 : Int32) (s : sm_S) : sm_go (sm_ZZ X) sm_PP true C 90 11 [vP (15, i0), vL x1, d2, vI x3, vI x4] [] s =
  if x4 < x3 then
   (if x4 < 12 then
    (sm_ix x4 12 fun z1 =>
    if (lg_cmp (s.2.1 50 i0 z1) x1) = 0 then
     (some (some (some (vI (5 + x4))), s))
    else
     (sm_go (sm_ZZ X) sm_PP true C 90 11 [vP (15, i0), vL x1, vU, vI x3, vI (x4 + 1)] [] s))
   else
    (sm_bI (C 133 [vP (5, 3), vL x1] s) sm_tw fun y2 s3 =>
    some (some (some (vI y2)), s3)))
  else
   (sm_bI (C 133 [vP (5, 3), vL x1] s) sm_tw fun y4 s5 =>
   some (some (some (vI y4)), s5)) :=
  (sm_go_x (cd := cd_X5_findProc) rfl h_X5_findProc 400 11 _ _ _).trans rfl
theorem h_X5_readParameter : sm_chain 0 cd_X5_readParameter = true := by decide +kernel
set_option maxRecDepth 20000 in
theorem q_X5_readParameter_0 (X : Nat × (Nat → Int32)) (C : sm_C) (i0 : Nat) (s : sm_S) : sm_go (sm_ZZ X) sm_PP true C 91 0 [vP (15, i0), vU, vU, vU] [] s =
  sm_bI (C 93 [vP (15, i0)] s) sm_tw fun y1 s2 =>
  if (s2.2.2.1 15 i0 3).1 = 10 then
   (sm_bI (C 8 [vP (s2.2.2.1 15 i0 3), vI (s2.1 15 i0 4)] s2) sm_tw fun y3 s4 =>
  if y3 < 4 then
   (sm_go (sm_ZZ X) sm_PP true C 91 25 [vP (15, i0), vI y1, vU, vU] [vI 0] s4)
  else
   (sm_go (sm_ZZ X) sm_PP true C 91 25 [vP (15, i0), vI y1, vU, vU] [vI 1] s4))
  else none :=
  (sm_go_x (cd := cd_X5_readParameter) rfl h_X5_readParameter 400 0 _ _ _).trans rfl
set_option maxRecDepth 20000 in
theorem q_X5_readParameter_25 (X : Nat × (Nat → Int32)) (C : sm_C) (i0 : Nat) (x1 : Int32) (d2 : sm_V) (d3 : sm_V) (x100 : Int32) (s : sm_S) : sm_go (sm_ZZ X) sm_PP true C 91 25 [vP (15, i0), vI x1, d2, d3] [vI x100] s =
  sm_bI (C 92 [vP (15, i0), vI x1, vI x100] s) sm_tw fun y1 s2 =>
  sm_bV (C 76 [vP (14, i0), vI y1] s2) sm_tw fun s4 =>
  if (s4.2.2.1 15 i0 3).1 = 10 then
   (sm_bV (C 6 [vP (s4.2.2.1 15 i0 3), vI (s4.1 15 i0 4), vI x1] s4) sm_tw fun s6 =>
  some (some none, s6))
  else none :=
  (sm_go_x (cd := cd_X5_readParameter) rfl h_X5_readParameter 400 25 _ _ _).trans rfl
theorem h_X5_readNewName : sm_chain 0 cd_X5_readNewName = true := by decide +kernel
set_option maxRecDepth 20000 in
theorem q_X5_readNewName_0 (X : Nat × (Nat → Int32)) (C : sm_C) (i0 : Nat) (x1 : Int32) (x2 : Int32) (s : sm_S) : sm_go (sm_ZZ X) sm_PP true C 92 0 [vP (15, i0), vI x1, vI x2, vU] [] s =
  if (s.1 15 i0 6) = 3 then
   (sm_bI (C 79 [vP (14, i0), vL (s.2.1 15 i0 8)] s) sm_tw fun y1 s2 =>
   if y1 = (-1) then
    (if x2 = 0 then
     (sm_bI (C 74 [vP (14, i0)] s2) sm_tw fun y3 s4 =>
     if y3 = 0 then
      (sm_go (sm_ZZ X) sm_PP true C 92 70 [vP (15, i0), vI x1, vI x2, vU] [] s4)
     else
      (sm_bV (C 83 [vP (15, i0), vI 5, vI (s4.1 15 i0 7)] s4) sm_tw fun s6 =>
      sm_go (sm_ZZ X) sm_PP true C 92 70 [vP (15, i0), vI x1, vI x2, vU] [] s6))
    else
     (sm_bV (C 83 [vP (15, i0), vI 5, vI (s2.1 15 i0 7)] s2) sm_tw fun s8 =>
     sm_go (sm_ZZ X) sm_PP true C 92 70 [vP (15, i0), vI x1, vI x2, vU] [] s8))
   else
    (sm_bV (C 83 [vP (15, i0), vI 3, vI (s2.1 15 i0 7)] s2) sm_tw fun s10 =>
    sm_go (sm_ZZ X) sm_PP true C 92 70 [vP (15, i0), vI x1, vI x2, vU] [] s10))
  else
   (sm_bV (C 83 [vP (15, i0), vI 1, vI (s.1 15 i0 7)] s) sm_tw fun s12 =>
   sm_go (sm_ZZ X) sm_PP true C 92 70 [vP (15, i0), vI x1, vI x2, vU] [] s12) :=
  (sm_go_x (cd := cd_X5_readNewName) rfl h_X5_readNewName 400 0 _ _ _).trans rfl
set_option maxRecDepth 20000 in
theorem q_X5_readNewName_70 (X : Nat × (Nat → Int32)) (C : sm_C) (i0 : Nat) (x1 : Int32) (d2 : sm_V) (d3 : sm_V) (s : sm_S) : sm_go (sm_ZZ X) sm_PP true C 92 70 [vP (15, i0), vI x1, d2, d3] [] s =
  sm_bI (C 75 [vP (14, i0), vL (s.2.1 15 i0 8), vI x1] s) sm_tw fun y1 s2 =>
  sm_bV (C 84 [vP (15, i0)] s2) sm_tw fun s4 =>
  some (some (some (vI y1)), s4) :=
  (sm_go_x (cd := cd_X5_readNewName) rfl h_X5_readNewName 400 70 _ _ _).trans rfl
theorem h_X5_readType : sm_chain 0 cd_X5_readType = true := by decide +kernel
set_option maxRecDepth 20000 in
theorem q_X5_readType_0 (X : Nat × (Nat → Int32)) (C : sm_C) (i0 : Nat) (s : sm_S) : sm_go (sm_ZZ X) sm_PP true C 93 0 [vP (15, i0), vU] [] s =
  sm_bI (C 94 [vP (15, i0)] s) sm_tw fun y1 s2 =>
  sm_bV (C 84 [vP (15, i0)] s2) sm_tw fun s4 =>
  some (some (some (vI y1)), s4) :=
  (sm_go_x (cd := cd_X5_readType) rfl h_X5_readType 400 0 _ _ _).trans rfl
theorem h_X5_readTypeUpToLast : sm_chain 0 cd_X5_readTypeUpToLast = true := by decide +kernel
set_option maxRecDepth 20000 in
theorem q_X5_readTypeUpToLast_0 (X : Nat × (Nat → Int32)) (C : sm_C) (i0 : Nat) (s : sm_S) : sm_go (sm_ZZ X) sm_PP true C 94 0 [vP (15, i0), vU] [] s =
  if (s.1 15 i0 6) = 5 then
   (if (Int64.toInt32 (s.2.1 15 i0 8)) = 36 then
    (some (some (some (vI (Int64.toInt32 (s.2.1 15 i0 8)))), s))
   else
    (if (s.1 15 i0 9) = 91 then
     (sm_bV (C 84 [vP (15, i0)] s) sm_tw fun s2 =>
     sm_bV (C 84 [vP (15, i0)] s2) sm_tw fun s4 =>
     if (s4.1 15 i0 6) = 93 then
      (some (some (some (vI (18 + (Int64.toInt32 (s.2.1 15 i0 8))))), s4))
     else
      (sm_bV (C 83 [vP (15, i0), vI 1, vI (s4.1 15 i0 7)] s4) sm_tw fun s6 =>
      some (some (some (vI (18 + (Int64.toInt32 (s.2.1 15 i0 8))))), s6)))
    else
     (some (some (some (vI (Int64.toInt32 (s.2.1 15 i0 8)))), s))))
  else
   (sm_bV (C 83 [vP (15, i0), vI 1, vI (s.1 15 i0 7)] s) sm_tw fun s8 =>
   some (some (some (vI 38)), s8)) :=
  (sm_go_x (cd := cd_X5_readTypeUpToLast) rfl h_X5_readTypeUpToLast 400 0 _ _ _).trans rfl
theorem h_X5_readBlock : sm_chain 0 cd_X5_readBlock = true := by decide +kernel
set_option maxRecDepth 20000 in
theorem q_X5_readBlock_0 (X : Nat × (Nat → Int32)) (C : sm_C) (i0 : Nat) (x1 : Int32) (s : sm_S) : sm_go (sm_ZZ X) sm_PP true C 95 0 [vP (15, i0), vI x1, vU, vU] [] s =
  if (s.1 15 i0 6) = 123 then
   (if x1 < 8 then
    (sm_bV (C 84 [vP (15, i0)] s) sm_tw fun s2 =>
    sm_bI (C 77 [vP (14, i0)] s2) sm_tw fun y3 s4 =>
    sm_go (sm_ZZ X) sm_PP true C 95 38 [vP (15, i0), vI x1, vI y3, vI 0] [] s4)
   else
    (sm_go (sm_ZZ X) sm_PP true C 95 15 [vP (15, i0), vI x1, vU, vU] [] s))
  else
   (sm_go (sm_ZZ X) sm_PP true C 95 15 [vP (15, i0), vI x1, vU, vU] [] s) :=
  (sm_go_x (cd := cd_X5_readBlock) rfl h_X5_readBlock 400 0 _ _ _).trans rfl
set_option maxRecDepth 20000 in
theorem q_X5_readBlock_15 (X : Nat × (Nat → Int32)) (C : sm_C) (i0 : Nat) (x1 : Int32) (d2 : sm_V) (d3 : sm_V) (s : sm_S) : sm_go (sm_ZZ X) sm_PP true C 95 15 [vP (15, i0), vI x1, d2, d3] [] s =
  sm_bV (C 83 [vP (15, i0), vI 1, vI (s.1 15 i0 7)] s) sm_tw fun s2 =>
  sm_bV (C 84 [vP (15, i0)] s2) sm_tw fun s4 =>
  sm_bI (C 77 [vP (14, i0)] s4) sm_tw fun y5 s6 =>
  sm_go (sm_ZZ X) sm_PP true C 95 38 [vP (15, i0), vI x1, vI y5, vI 0] [] s6 :=
  (sm_go_x (cd := cd_X5_readBlock) rfl h_X5_readBlock 400 15 _ _ _).trans rfl
set_option maxRecDepth 20000 in
theorem q_X5_readBlock_38 (X : Nat × (Nat → Int32)) (C : sm_C) (i0 : Nat) (x1 : Int32) (x2 : Int32) (x3 : Int32) (s : sm_S) : sm_go (sm_ZZ X) sm_PP true C 95 38 [vP (15, i0), vI x1, vI x2, vI x3] [] s =
  if 800 < x3 then
   (sm_bV (C 86 [vP (15, i0), vI 125] s) sm_tw fun s2 =>
   sm_bV (C 78 [vP (14, i0), vI x2] s2) sm_tw fun s4 =>
   some (some none, s4))
  else
   (if (s.1 15 i0 11) = 0 then
    (if (s.1 15 i0 6) = 125 then
     (sm_bV (C 86 [vP (15, i0), vI 125] s) sm_tw fun s6 =>
     sm_bV (C 78 [vP (14, i0), vI x2] s6) sm_tw fun s8 =>
     some (some none, s8))
    else
     (sm_bV (C 96 [vP (15, i0), vI (x1 + 1)] s) sm_tw fun s10 =>
     sm_go (sm_ZZ X) sm_PP true C 95 38 [vP (15, i0), vI x1, vI x2, vI (x3 + 1)] [] s10))
   else
    (sm_bV (C 86 [vP (15, i0), vI 125] s) sm_tw fun s12 =>
    sm_bV (C 78 [vP (14, i0), vI x2] s12) sm_tw fun s14 =>
    some (some none, s14))) :=
  (sm_go_x (cd := cd_X5_readBlock) rfl h_X5_readBlock 400 38 _ _ _).trans rfl
end
