section
theorem h_X5_readStatement : sm_chain 0 cd_X5_readStatement = true := by decide +kernel
set_option maxRecDepth 20000 in
theorem q_X5_readStatement_0 (X : Nat × (Nat → Int32)) (C : sm_C) (i0 : Nat) (x1 : Int32) (s : sm_S) : sm_go (sm_ZZ X) sm_PP true C 96 0 [vP (15, i0), vI x1] [] s =
  if (s.1 15 i0 6) = 201 then
   (sm_bV (C 97 [vP (15, i0)] s) sm_tw fun s2 =>
   some (some none, s2))
  else if (s.1 15 i0 6) = 202 then
   (sm_bV (C 100 [vP (15, i0), vI x1] s) sm_tw fun s4 =>
   some (some none, s4))
  else if (s.1 15 i0 6) = 203 then
   (sm_bV (C 98 [vP (15, i0)] s) sm_tw fun s6 =>
   some (some none, s6))
  else if (s.1 15 i0 6) = 204 then
   (sm_bV (C 101 [vP (15, i0), vI x1] s) sm_tw fun s8 =>
   some (some none, s8))
  else if (s.1 15 i0 6) = 205 then
   (sm_bV (C 102 [vP (15, i0), vI x1] s) sm_tw fun s10 =>
   some (some none, s10))
  else if (s.1 15 i0 6) = 206 then
   (sm_bV (C 98 [vP (15, i0)] s) sm_tw fun s12 =>
   some (some none, s12))
  else if (s.1 15 i0 6) = 207 then
   (sm_bV (C 103 [vP (15, i0)] s) sm_tw fun s14 =>
   some (some none, s14))
  else if (s.1 15 i0 6) = 208 then
   (sm_bV (C 104 [vP (15, i0)] s) sm_tw fun s16 =>
   some (some none, s16))
  else if (s.1 15 i0 6) = 209 then
   (sm_bV (C 105 [vP (15, i0)] s) sm_tw fun s18 =>
   some (some none, s18))
  else (sm_bV (C 98 [vP (15, i0)] s) sm_tw fun s20 =>
   some (some none, s20)) :=
  (sm_go_x (cd := cd_X5_readStatement) rfl h_X5_readStatement 400 0 _ _ _).trans rfl
theorem h_X5_readVar : sm_chain 0 cd_X5_readVar = true := by decide +kernel
set_option maxRecDepth 20000 in
theorem q_X5_readVar_0 (X : Nat × (Nat → Int32)) (C : sm_C) (i0 : Nat) (s : sm_S) : sm_go (sm_ZZ X) sm_PP true C 97 0 [vP (15, i0), vU, vU, vU, vU] [] s =
  sm_bV (C 84 [vP (15, i0)] s) sm_tw fun s2 =>
  sm_bI (C 93 [vP (15, i0)] s2) sm_tw fun y3 s4 =>
  sm_bI (C 92 [vP (15, i0), vI y3, vI 0] s4) sm_tw fun y5 s6 =>
  sm_bV (C 86 [vP (15, i0), vI 61] s6) sm_tw fun s8 =>
  sm_bI (C 106 [vP (15, i0), vI 0] s8) sm_tw fun y9 s10 =>
  sm_bI (C 28 [vI y9, vI y3] s10) sm_tw fun y11 s12 =>
  sm_bV (C 85 [vP (15, i0), vI 59, vI y11] s12) sm_tw fun s14 =>
  sm_bV (C 76 [vP (14, i0), vI y5] s14) sm_tw fun s16 =>
  if (s16.2.2.1 15 i0 3).1 = 10 then
   (sm_bI (C 13 [vP (s16.2.2.1 15 i0 3), vI 6, vI y5, vI (s6.1 15 i0 7)] s16) sm_tw fun y17 s18 =>
  some (some none, s18))
  else none :=
  (sm_go_x (cd := cd_X5_readVar) rfl h_X5_readVar 400 0 _ _ _).trans rfl
theorem h_X5_readPlaceOrCall : sm_chain 0 cd_X5_readPlaceOrCall = true := by decide +kernel
set_option maxRecDepth 20000 in
theorem q_X5_readPlaceOrCall_0 (X : Nat × (Nat → Int32)) (C : sm_C) (i0 : Nat) (s : sm_S) : sm_go (sm_ZZ X) sm_PP true C 98 0 [vP (15, i0), vU, vU, vU, vU, vU] [] s =
  sm_bI (C 110 [vP (15, i0), vI 0] s) sm_tw fun y1 s2 =>
  if (s2.1 15 i0 10) = 1 then
   (sm_bV (C 86 [vP (15, i0), vI 59] s2) sm_tw fun s4 =>
   if (s4.2.2.1 15 i0 3).1 = 10 then
    (sm_bI (C 13 [vP (s4.2.2.1 15 i0 3), vI 1, vI 0, vI (-1)] s4) sm_tw fun y5 s6 =>
   some (some none, s6))
   else none)
  else
   (if (s2.1 15 i0 6) = 61 then
    (if (s2.1 15 i0 10) = 4 then
     (sm_bV (C 83 [vP (15, i0), vI 1, vI (s2.1 15 i0 7)] s2) sm_tw fun s8 =>
     some (some none, s8))
    else
     (if (s2.2.2.1 15 i0 3).1 = 10 then
      (sm_bI (C 14 [vP (s2.2.2.1 15 i0 3)] s2) sm_tw fun y9 s10 =>
     if (s2.1 15 i0 10) = 3 then
      (sm_bI (C 148 [vI y9] s10) sm_tw fun y11 s12 =>
      if y11 = 0 then
       (sm_go (sm_ZZ X) sm_PP true C 98 92 [vP (15, i0), vI y1, vI (s2.1 15 i0 10), vI y9, vI (s10.1 15 i0 7), vU] [vI 1, vI 61, vP (15, i0)] s12)
      else
       (sm_go (sm_ZZ X) sm_PP true C 98 92 [vP (15, i0), vI y1, vI (s2.1 15 i0 10), vI y9, vI (s10.1 15 i0 7), vU] [vI 0, vI 61, vP (15, i0)] s12))
     else
      (sm_go (sm_ZZ X) sm_PP true C 98 92 [vP (15, i0), vI y1, vI (s2.1 15 i0 10), vI y9, vI (s10.1 15 i0 7), vU] [vI 1, vI 61, vP (15, i0)] s10))
     else none))
   else
    (sm_bV (C 83 [vP (15, i0), vI 1, vI (s2.1 15 i0 7)] s2) sm_tw fun s14 =>
    some (some none, s14))) :=
  (sm_go_x (cd := cd_X5_readPlaceOrCall) rfl h_X5_readPlaceOrCall 400 0 _ _ _).trans rfl
set_option maxRecDepth 20000 in
theorem q_X5_readPlaceOrCall_92 (X : Nat × (Nat → Int32)) (C : sm_C) (i0 : Nat) (x1 : Int32) (x2 : Int32) (x3 : Int32) (x4 : Int32) (d5 : sm_V) (q100 : Nat × Nat) (x101 : Int32) (x102 : Int32) (s : sm_S) : sm_go (sm_ZZ X) sm_PP true C 98 92 [vP (15, i0), vI x1, vI x2, vI x3, vI x4, d5] [vI x102, vI x101, vP q100] s =
  if q100.1 = 15 then
   (sm_bV (C 85 [vP q100, vI x101, vI x102] s) sm_tw fun s2 =>
  sm_bI (C 106 [vP (15, i0), vI 0] s2) sm_tw fun y3 s4 =>
  sm_bI (C 28 [vI y3, vI x1] s4) sm_tw fun y5 s6 =>
  sm_bV (C 85 [vP (15, i0), vI 59, vI y5] s6) sm_tw fun s8 =>
  if x2 = 0 then
   (if (s8.2.2.1 15 i0 3).1 = 10 then
    (sm_bI (C 13 [vP (s8.2.2.1 15 i0 3), vI 6, vI x3, vI x4] s8) sm_tw fun y9 s10 =>
   some (some none, s10))
   else none)
  else
   (if x2 = 3 then
    (if (s8.2.2.1 15 i0 3).1 = 10 then
     (sm_bI (C 13 [vP (s8.2.2.1 15 i0 3), vI 18, vI x3, vI x4] s8) sm_tw fun y11 s12 =>
    some (some none, s12))
    else none)
   else
    (if (s8.2.2.1 15 i0 3).1 = 10 then
     (sm_bI (C 13 [vP (s8.2.2.1 15 i0 3), vI 16, vI x3, vI x4] s8) sm_tw fun y13 s14 =>
    some (some none, s14))
    else none)))
  else none :=
  (sm_go_x (cd := cd_X5_readPlaceOrCall) rfl h_X5_readPlaceOrCall 400 92 _ _ _).trans rfl
theorem h_X5_readCondition : sm_chain 0 cd_X5_readCondition = true := by decide +kernel
set_option maxRecDepth 20000 in
theorem q_X5_readCondition_0 (X : Nat × (Nat → Int32)) (C : sm_C) (i0 : Nat) (x1 : Int32) (s : sm_S) : sm_go (sm_ZZ X) sm_PP true C 99 0 [vP (15, i0), vI x1, vU] [] s =
  sm_bV (C 87 [vP (15, i0), vI 40, vI 0] s) sm_tw fun s2 =>
  sm_bI (C 106 [vP (15, i0), vI 1] s2) sm_tw fun y3 s4 =>
  if y3 = 36 then
   (sm_bV (C 85 [vP (15, i0), vI 41, vI 1] s4) sm_tw fun s6 =>
   if (s6.2.2.1 15 i0 3).1 = 10 then
    (sm_bI (C 13 [vP (s6.2.2.1 15 i0 3), vI 26, vI 0, vI x1] s6) sm_tw fun y7 s8 =>
   some (some (some (vI y7)), s8))
   else none)
  else
   (sm_bV (C 85 [vP (15, i0), vI 41, vI 0] s4) sm_tw fun s10 =>
   if (s10.2.2.1 15 i0 3).1 = 10 then
    (sm_bI (C 13 [vP (s10.2.2.1 15 i0 3), vI 26, vI 0, vI x1] s10) sm_tw fun y11 s12 =>
   some (some (some (vI y11)), s12))
   else none) :=
  (sm_go_x (cd := cd_X5_readCondition) rfl h_X5_readCondition 400 0 _ _ _).trans rfl
theorem h_X5_readIf : sm_chain 0 cd_X5_readIf = true := by decide +kernel
set_option maxRecDepth 20000 in
theorem q_X5_readIf_0 (X : Nat × (Nat → Int32)) (C : sm_C) (i0 : Nat) (x1 : Int32) (s : sm_S) : sm_go (sm_ZZ X) sm_PP true C 100 0 [vP (15, i0), vI x1, vU, vU, vU] [] s =
  sm_bV (C 84 [vP (15, i0)] s) sm_tw fun s2 =>
  sm_bI (C 99 [vP (15, i0), vI (s.1 15 i0 7)] s2) sm_tw fun y3 s4 =>
  sm_bV (C 95 [vP (15, i0), vI x1] s4) sm_tw fun s6 =>
  if (s6.1 15 i0 6) = 203 then
   (sm_bV (C 84 [vP (15, i0)] s6) sm_tw fun s8 =>
   if (s8.2.2.1 15 i0 3).1 = 10 then
    (sm_bI (C 13 [vP (s8.2.2.1 15 i0 3), vI 0, vI 0, vI (-1)] s8) sm_tw fun y9 s10 =>
   if (s10.2.2.1 15 i0 3).1 = 10 then
    (sm_bV (C 15 [vP (s10.2.2.1 15 i0 3), vI y3] s10) sm_tw fun s12 =>
   sm_bV (C 95 [vP (15, i0), vI x1] s12) sm_tw fun s14 =>
   if (s14.2.2.1 15 i0 3).1 = 10 then
    (sm_bV (C 15 [vP (s14.2.2.1 15 i0 3), vI y9] s14) sm_tw fun s16 =>
   some (some none, s16))
   else none)
   else none)
   else none)
  else
   (if (s6.2.2.1 15 i0 3).1 = 10 then
    (sm_bV (C 15 [vP (s6.2.2.1 15 i0 3), vI y3] s6) sm_tw fun s18 =>
   some (some none, s18))
   else none) :=
  (sm_go_x (cd := cd_X5_readIf) rfl h_X5_readIf 400 0 _ _ _).trans rfl
theorem h_X5_readWhile : sm_chain 0 cd_X5_readWhile = true := by decide +kernel
set_option maxRecDepth 20000 in
theorem q_X5_readWhile_0 (X : Nat × (Nat → Int32)) (C : sm_C) (i0 : Nat) (x1 : Int32) (s : sm_S) : sm_go (sm_ZZ X) sm_PP true C 101 0 [vP (15, i0), vI x1, vU, vU, vU] [] s =
  sm_rq (s.2.2.1 15 i0 3) 10 fun j1 =>
  sm_bV (C 84 [vP (15, i0)] s) sm_tw fun s3 =>
  sm_bI (C 99 [vP (15, i0), vI (s.1 15 i0 7)] s3) sm_tw fun y4 s5 =>
  sm_bV (C 95 [vP (15, i0), vI x1] s5) sm_tw fun s7 =>
  if (s7.2.2.1 15 i0 3).1 = 10 then
   (sm_bI (C 13 [vP (s7.2.2.1 15 i0 3), vI 0, vI (s.1 10 j1 11), vI (-1)] s7) sm_tw fun y8 s9 =>
  if (s9.2.2.1 15 i0 3).1 = 10 then
   (sm_bV (C 15 [vP (s9.2.2.1 15 i0 3), vI y4] s9) sm_tw fun s11 =>
  some (some none, s11))
  else none)
  else none :=
  (sm_go_x (cd := cd_X5_readWhile) rfl h_X5_readWhile 400 0 _ _ _).trans rfl
theorem h_X5_readTry : sm_chain 0 cd_X5_readTry = true := by decide +kernel
set_option maxRecDepth 20000 in
theorem q_X5_readTry_0 (X : Nat × (Nat → Int32)) (C : sm_C) (i0 : Nat) (x1 : Int32) (s : sm_S) : sm_go (sm_ZZ X) sm_PP true C 102 0 [vP (15, i0), vI x1, vU, vU, vU, vU, vU] [] s =
  sm_bV (C 84 [vP (15, i0)] s) sm_tw fun s2 =>
  sm_rq (s2.2.2.1 15 i0 3) 10 fun j3 =>
  if (s2.2.2.1 15 i0 3).1 = 10 then
   (sm_bI (C 16 [vP (s2.2.2.1 15 i0 3)] s2) sm_tw fun y4 s5 =>
  sm_rq (s5.2.2.1 15 i0 3) 10 fun j6 =>
  sm_bV (C 95 [vP (15, i0), vI x1] (sI s5 10 j6 12 y4)) sm_tw fun s8 =>
  sm_rq (s8.2.2.1 15 i0 3) 10 fun j9 =>
  if ((sI s8 10 j9 12 (s2.1 10 j3 12)).2.2.1 15 i0 3).1 = 10 then
   (sm_bI (C 13 [vP ((sI s8 10 j9 12 (s2.1 10 j3 12)).2.2.1 15 i0 3), vI 0, vI 0, vI (-1)] (sI s8 10 j9 12 (s2.1 10 j3 12))) sm_tw fun y10 s11 =>
  sm_bV (C 86 [vP (15, i0), vI 206] s11) sm_tw fun s13 =>
  sm_bV (C 86 [vP (15, i0), vI 40] s13) sm_tw fun s15 =>
  sm_bI (C 92 [vP (15, i0), vI 36, vI 0] s15) sm_tw fun y16 s17 =>
  sm_bV (C 86 [vP (15, i0), vI 41] s17) sm_tw fun s19 =>
  if (s19.2.2.1 15 i0 3).1 = 10 then
   (sm_bV (C 17 [vP (s19.2.2.1 15 i0 3), vI y4] s19) sm_tw fun s21 =>
  if (s21.2.2.1 15 i0 3).1 = 10 then
   (sm_bI (C 13 [vP (s21.2.2.1 15 i0 3), vI 2, vI y16, vI (-1)] s21) sm_tw fun y22 s23 =>
  sm_bI (C 77 [vP (14, i0)] s23) sm_tw fun y24 s25 =>
  sm_bV (C 76 [vP (14, i0), vI y16] s25) sm_tw fun s27 =>
  sm_bV (C 95 [vP (15, i0), vI x1] s27) sm_tw fun s29 =>
  sm_bV (C 78 [vP (14, i0), vI y24] s29) sm_tw fun s31 =>
  if (s31.2.2.1 15 i0 3).1 = 10 then
   (sm_bV (C 15 [vP (s31.2.2.1 15 i0 3), vI y10] s31) sm_tw fun s33 =>
  some (some none, s33))
  else none)
  else none)
  else none)
  else none)
  else none :=
  (sm_go_x (cd := cd_X5_readTry) rfl h_X5_readTry 400 0 _ _ _).trans rfl
theorem h_X5_readReturn : sm_chain 0 cd_X5_readReturn = true := by decide +kernel
set_option maxRecDepth 20000 in
theorem q_X5_readReturn_0 (X : Nat × (Nat → Int32)) (C : sm_C) (i0 : Nat) (s : sm_S) : sm_go (sm_ZZ X) sm_PP true C 103 0 [vP (15, i0), vU, vU, vU] [] s =
  if (s.2.2.1 15 i0 3).1 = 10 then
   (sm_bI (C 10 [vP (s.2.2.1 15 i0 3), vI (s.1 15 i0 4)] s) sm_tw fun y1 s2 =>
  sm_bV (C 84 [vP (15, i0)] s2) sm_tw fun s4 =>
  if (s4.1 15 i0 6) = 59 then
   (if y1 = 38 then
    (sm_bV (C 85 [vP (15, i0), vI 59, vI 1] s4) sm_tw fun s6 =>
    if (s6.2.2.1 15 i0 3).1 = 10 then
     (sm_bI (C 13 [vP (s6.2.2.1 15 i0 3), vI 24, vI 0, vI (s.1 15 i0 7)] s6) sm_tw fun y7 s8 =>
    some (some none, s8))
    else none)
   else
    (sm_bV (C 85 [vP (15, i0), vI 59, vI 0] s4) sm_tw fun s10 =>
    if (s10.2.2.1 15 i0 3).1 = 10 then
     (sm_bI (C 13 [vP (s10.2.2.1 15 i0 3), vI 24, vI 0, vI (s.1 15 i0 7)] s10) sm_tw fun y11 s12 =>
    some (some none, s12))
    else none))
  else
   (sm_bI (C 106 [vP (15, i0), vI 0] s4) sm_tw fun y13 s14 =>
   sm_bI (C 28 [vI y13, vI y1] s14) sm_tw fun y15 s16 =>
   sm_bV (C 85 [vP (15, i0), vI 59, vI y15] s16) sm_tw fun s18 =>
   if (s18.2.2.1 15 i0 3).1 = 10 then
    (sm_bI (C 13 [vP (s18.2.2.1 15 i0 3), vI 24, vI 1, vI (s.1 15 i0 7)] s18) sm_tw fun y19 s20 =>
   some (some none, s20))
   else none))
  else none :=
  (sm_go_x (cd := cd_X5_readReturn) rfl h_X5_readReturn 400 0 _ _ _).trans rfl
theorem h_X5_readSay : sm_chain 0 cd_X5_readSay = true := by decide +kernel
set_option maxRecDepth 20000 in
theorem q_X5_readSay_0 (X : Nat × (Nat → Int32)) (C : sm_C) (i0 : Nat) (s : sm_S) : sm_go (sm_ZZ X) sm_PP true C 104 0 [vP (15, i0), vU, vU] [] s =
  sm_bV (C 84 [vP (15, i0)] s) sm_tw fun s2 =>
  sm_bI (C 106 [vP (15, i0), vI 0] s2) sm_tw fun y3 s4 =>
  if y3 = 38 then
   (sm_go (sm_ZZ X) sm_PP true C 104 29 [vP (15, i0), vI (s.1 15 i0 7), vI y3] [vI 0, vI 59, vP (15, i0)] s4)
  else
   (sm_go (sm_ZZ X) sm_PP true C 104 29 [vP (15, i0), vI (s.1 15 i0 7), vI y3] [vI 1, vI 59, vP (15, i0)] s4) :=
  (sm_go_x (cd := cd_X5_readSay) rfl h_X5_readSay 400 0 _ _ _).trans rfl
set_option maxRecDepth 20000 in
theorem q_X5_readSay_29 (X : Nat × (Nat → Int32)) (C : sm_C) (i0 : Nat) (x1 : Int32) (x2 : Int32) (q100 : Nat × Nat) (x101 : Int32) (x102 : Int32) (s : sm_S) : sm_go (sm_ZZ X) sm_PP true C 104 29 [vP (15, i0), vI x1, vI x2] [vI x102, vI x101, vP q100] s =
  if q100.1 = 15 then
   (sm_bV (C 85 [vP q100, vI x101, vI x102] s) sm_tw fun s2 =>
  if x2 = 36 then
   (if (s2.2.2.1 15 i0 3).1 = 10 then
    (sm_bI (C 13 [vP (s2.2.2.1 15 i0 3), vI 22, vI 0, vI x1] s2) sm_tw fun y3 s4 =>
   some (some none, s4))
   else none)
  else
   (if (s2.2.2.1 15 i0 3).1 = 10 then
    (sm_bI (C 13 [vP (s2.2.2.1 15 i0 3), vI 23, vI 0, vI x1] s2) sm_tw fun y5 s6 =>
   some (some none, s6))
   else none))
  else none :=
  (sm_go_x (cd := cd_X5_readSay) rfl h_X5_readSay 400 29 _ _ _).trans rfl
theorem h_X5_readFail : sm_chain 0 cd_X5_readFail = true := by decide +kernel
set_option maxRecDepth 20000 in
theorem q_X5_readFail_0 (X : Nat × (Nat → Int32)) (C : sm_C) (i0 : Nat) (s : sm_S) : sm_go (sm_ZZ X) sm_PP true C 105 0 [vP (15, i0), vU, vU] [] s =
  sm_bV (C 84 [vP (15, i0)] s) sm_tw fun s2 =>
  sm_bI (C 106 [vP (15, i0), vI 0] s2) sm_tw fun y3 s4 =>
  if y3 = 36 then
   (sm_bV (C 85 [vP (15, i0), vI 59, vI 1] s4) sm_tw fun s6 =>
   if (s6.2.2.1 15 i0 3).1 = 10 then
    (sm_bI (C 13 [vP (s6.2.2.1 15 i0 3), vI 25, vI 0, vI (s.1 15 i0 7)] s6) sm_tw fun y7 s8 =>
   some (some none, s8))
   else none)
  else
   (sm_bV (C 85 [vP (15, i0), vI 59, vI 0] s4) sm_tw fun s10 =>
   if (s10.2.2.1 15 i0 3).1 = 10 then
    (sm_bI (C 13 [vP (s10.2.2.1 15 i0 3), vI 25, vI 0, vI (s.1 15 i0 7)] s10) sm_tw fun y11 s12 =>
   some (some none, s12))
   else none) :=
  (sm_go_x (cd := cd_X5_readFail) rfl h_X5_readFail 400 0 _ _ _).trans rfl
theorem h_X5_readExpression : sm_chain 0 cd_X5_readExpression = true := by decide +kernel
set_option maxRecDepth 20000 in
theorem q_X5_readExpression_0 (X : Nat × (Nat → Int32)) (C : sm_C) (i0 : Nat) (x1 : Int32) (s : sm_S) : sm_go (sm_ZZ X) sm_PP true C 106 0 [vP (15, i0), vI x1, vU, vU, vU, vU] [] s =
  sm_bI (C 107 [vP (15, i0), vI x1] s) sm_tw fun y1 s2 =>
  if (s2.1 15 i0 6) = 1 then
   (sm_go (sm_ZZ X) sm_PP true C 106 29 [vP (15, i0), vI x1, vI y1, vI (s2.1 15 i0 6), vU, vU] [] s2)
  else
   (if (s2.1 15 i0 6) = 2 then
    (sm_go (sm_ZZ X) sm_PP true C 106 29 [vP (15, i0), vI x1, vI y1, vI (s2.1 15 i0 6), vU, vU] [] s2)
   else
    (if (s2.1 15 i0 6) = 60 then
     (sm_go (sm_ZZ X) sm_PP true C 106 29 [vP (15, i0), vI x1, vI y1, vI (s2.1 15 i0 6), vU, vU] [] s2)
    else
     (some (some (some (vI y1)), s2)))) :=
  (sm_go_x (cd := cd_X5_readExpression) rfl h_X5_readExpression 400 0 _ _ _).trans rfl
set_option maxRecDepth 20000 in
theorem q_X5_readExpression_29 (X : Nat × (Nat → Int32)) (C : sm_C) (i0 : Nat) (x1 : Int32) (x2 : Int32) (x3 : Int32) (d4 : sm_V) (d5 : sm_V) (s : sm_S) : sm_go (sm_ZZ X) sm_PP true C 106 29 [vP (15, i0), vI x1, vI x2, vI x3, d4, d5] [] s =
  if x2 = 38 then
   (sm_go (sm_ZZ X) sm_PP true C 106 60 [vP (15, i0), vI x1, vI x2, vI x3, vI (s.1 15 i0 7), vU] [vI 0, vI x3, vP (15, i0)] s)
  else
   (if x3 = 60 then
    (if x2 = 36 then
     (sm_go (sm_ZZ X) sm_PP true C 106 60 [vP (15, i0), vI x1, vI x2, vI x3, vI (s.1 15 i0 7), vU] [vI 1, vI x3, vP (15, i0)] s)
    else
     (sm_go (sm_ZZ X) sm_PP true C 106 60 [vP (15, i0), vI x1, vI x2, vI x3, vI (s.1 15 i0 7), vU] [vI 0, vI x3, vP (15, i0)] s))
   else
    (sm_go (sm_ZZ X) sm_PP true C 106 60 [vP (15, i0), vI x1, vI x2, vI x3, vI (s.1 15 i0 7), vU] [vI 1, vI x3, vP (15, i0)] s)) :=
  (sm_go_x (cd := cd_X5_readExpression) rfl h_X5_readExpression 400 29 _ _ _).trans rfl
set_option maxRecDepth 20000 in
theorem q_X5_readExpression_60 (X : Nat × (Nat → Int32)) (C : sm_C) (i0 : Nat) (x1 : Int32) (x2 : Int32) (x3 : Int32) (x4 : Int32) (d5 : sm_V) (q100 : Nat × Nat) (x101 : Int32) (x102 : Int32) (s : sm_S) : sm_go (sm_ZZ X) sm_PP true C 106 60 [vP (15, i0), vI x1, vI x2, vI x3, vI x4, d5] [vI x102, vI x101, vP q100] s =
  if q100.1 = 15 then
   (sm_bV (C 85 [vP q100, vI x101, vI x102] s) sm_tw fun s2 =>
  sm_bI (C 107 [vP (15, i0), vI x1] s2) sm_tw fun y3 s4 =>
  if x2 = 36 then
   (if y3 = 36 then
    (sm_go (sm_ZZ X) sm_PP true C 106 101 [vP (15, i0), vI x1, vI x2, vI x3, vI x4, vI y3] [] s4)
   else
    (sm_bV (C 83 [vP (15, i0), vI 4, vI x4] s4) sm_tw fun s6 =>
    sm_go (sm_ZZ X) sm_PP true C 106 101 [vP (15, i0), vI x1, vI x2, vI x3, vI x4, vI y3] [] s6))
  else
   (sm_bI (C 26 [vI y3] s4) sm_tw fun y7 s8 =>
   if y7 = 0 then
    (sm_bV (C 83 [vP (15, i0), vI 4, vI x4] s8) sm_tw fun s10 =>
    sm_go (sm_ZZ X) sm_PP true C 106 101 [vP (15, i0), vI x1, vI x2, vI x3, vI x4, vI y3] [] s10)
   else
    (sm_go (sm_ZZ X) sm_PP true C 106 101 [vP (15, i0), vI x1, vI x2, vI x3, vI x4, vI y3] [] s8)))
  else none :=
  (sm_go_x (cd := cd_X5_readExpression) rfl h_X5_readExpression 400 60 _ _ _).trans rfl
set_option maxRecDepth 20000 in
theorem q_X5_readExpression_101 (X : Nat × (Nat → Int32)) (C : sm_C) (i0 : Nat) (d1 : sm_V) (d2 : sm_V) (x3 : Int32) (x4 : Int32) (d5 : sm_V) (s : sm_S) : sm_go (sm_ZZ X) sm_PP true C 106 101 [vP (15, i0), d1, d2, vI x3, vI x4, d5] [] s =
  if x3 = 60 then
   (if (s.2.2.1 15 i0 3).1 = 10 then
    (sm_bI (C 13 [vP (s.2.2.1 15 i0 3), vI 12, vI 0, vI x4] s) sm_tw fun y1 s2 =>
   some (some (some (vI 36)), s2))
   else none)
  else
   (if x3 = 1 then
    (if (s.2.2.1 15 i0 3).1 = 10 then
     (sm_bI (C 13 [vP (s.2.2.1 15 i0 3), vI 10, vI 0, vI x4] s) sm_tw fun y3 s4 =>
    some (some (some (vI 36)), s4))
    else none)
   else
    (if (s.2.2.1 15 i0 3).1 = 10 then
     (sm_bI (C 13 [vP (s.2.2.1 15 i0 3), vI 11, vI 0, vI x4] s) sm_tw fun y5 s6 =>
    some (some (some (vI 36)), s6))
    else none)) :=
  (sm_go_x (cd := cd_X5_readExpression) rfl h_X5_readExpression 400 101 _ _ _).trans rfl
theorem h_X5_readSum : sm_chain 0 cd_X5_readSum = true := by decide +kernel
set_option maxRecDepth 20000 in
theorem q_X5_readSum_0 (X : Nat × (Nat → Int32)) (C : sm_C) (i0 : Nat) (x1 : Int32) (s : sm_S) : sm_go (sm_ZZ X) sm_PP true C 107 0 [vP (15, i0), vI x1, vU, vU, vU, vU, vU] [] s =
  sm_bI (C 108 [vP (15, i0), vI x1] s) sm_tw fun y1 s2 =>
  sm_go (sm_ZZ X) sm_PP true C 107 8 [vP (15, i0), vI x1, vI y1, vI 0, vU, vU, vU] [] s2 :=
  (sm_go_x (cd := cd_X5_readSum) rfl h_X5_readSum 400 0 _ _ _).trans rfl
set_option maxRecDepth 20000 in
theorem q_X5_readSum_8 (X : Nat × (Nat → Int32)) (C : sm_C) (i0 : Nat) (x1 : Int32) (x2 : Int32) (x3 : Int32) (d4 : sm_V) (d5 : sm_V) (d6 : sm_V) (s : sm_S) : sm_go (sm_ZZ X) sm_PP true C 107 8 [vP (15, i0), vI x1, vI x2, vI x3, d4, d5, d6] [] s =
  if 800 < x3 then
   (some (some (some (vI x2)), s))
  else
   (if (s.1 15 i0 6) = 43 then
    (if (s.1 15 i0 6) = 43 then
     (sm_go (sm_ZZ X) sm_PP true C 107 49 [vP (15, i0), vI x1, vI x2, vI x3, vU, vU, vU] [vI 7] s)
    else
     (sm_go (sm_ZZ X) sm_PP true C 107 49 [vP (15, i0), vI x1, vI x2, vI x3, vU, vU, vU] [vI 8] s))
   else
    (if (s.1 15 i0 6) = 45 then
     (if (s.1 15 i0 6) = 43 then
      (sm_go (sm_ZZ X) sm_PP true C 107 49 [vP (15, i0), vI x1, vI x2, vI x3, vU, vU, vU] [vI 7] s)
     else
      (sm_go (sm_ZZ X) sm_PP true C 107 49 [vP (15, i0), vI x1, vI x2, vI x3, vU, vU, vU] [vI 8] s))
    else
     (some (some (some (vI x2)), s)))) :=
  (sm_go_x (cd := cd_X5_readSum) rfl h_X5_readSum 400 8 _ _ _).trans rfl
set_option maxRecDepth 20000 in
theorem q_X5_readSum_49 (X : Nat × (Nat → Int32)) (C : sm_C) (i0 : Nat) (x1 : Int32) (x2 : Int32) (x3 : Int32) (d4 : sm_V) (d5 : sm_V) (d6 : sm_V) (x100 : Int32) (s : sm_S) : sm_go (sm_ZZ X) sm_PP true C 107 49 [vP (15, i0), vI x1, vI x2, vI x3, d4, d5, d6] [vI x100] s =
  if x2 = 36 then
   (sm_go (sm_ZZ X) sm_PP true C 107 73 [vP (15, i0), vI x1, vI x2, vI x3, vI x100, vI (s.1 15 i0 7), vU] [vI 1, vI (s.1 15 i0 6), vP (15, i0)] s)
  else
   (sm_go (sm_ZZ X) sm_PP true C 107 73 [vP (15, i0), vI x1, vI x2, vI x3, vI x100, vI (s.1 15 i0 7), vU] [vI 0, vI (s.1 15 i0 6), vP (15, i0)] s) :=
  (sm_go_x (cd := cd_X5_readSum) rfl h_X5_readSum 400 49 _ _ _).trans rfl
set_option maxRecDepth 20000 in
theorem q_X5_readSum_73 (X : Nat × (Nat → Int32)) (C : sm_C) (i0 : Nat) (x1 : Int32) (d2 : sm_V) (x3 : Int32) (x4 : Int32) (x5 : Int32) (d6 : sm_V) (q100 : Nat × Nat) (x101 : Int32) (x102 : Int32) (s : sm_S) : sm_go (sm_ZZ X) sm_PP true C 107 73 [vP (15, i0), vI x1, d2, vI x3, vI x4, vI x5, d6] [vI x102, vI x101, vP q100] s =
  if q100.1 = 15 then
   (sm_bV (C 85 [vP q100, vI x101, vI x102] s) sm_tw fun s2 =>
  sm_bI (C 108 [vP (15, i0), vI x1] s2) sm_tw fun y3 s4 =>
  sm_bI (C 109 [vP (15, i0), vI x4, vI y3, vI x5] s4) sm_tw fun y5 s6 =>
  sm_go (sm_ZZ X) sm_PP true C 107 8 [vP (15, i0), vI x1, vI y5, vI (x3 + 1), vI x4, vI x5, vI y3] [] s6)
  else none :=
  (sm_go_x (cd := cd_X5_readSum) rfl h_X5_readSum 400 73 _ _ _).trans rfl
theorem h_X5_readProduct : sm_chain 0 cd_X5_readProduct = true := by decide +kernel
set_option maxRecDepth 20000 in
theorem q_X5_readProduct_0 (X : Nat × (Nat → Int32)) (C : sm_C) (i0 : Nat) (x1 : Int32) (s : sm_S) : sm_go (sm_ZZ X) sm_PP true C 108 0 [vP (15, i0), vI x1, vU, vU, vU, vU] [] s =
  sm_bI (C 110 [vP (15, i0), vI x1] s) sm_tw fun y1 s2 =>
  sm_go (sm_ZZ X) sm_PP true C 108 8 [vP (15, i0), vI x1, vI y1, vI 0, vU, vU] [] s2 :=
  (sm_go_x (cd := cd_X5_readProduct) rfl h_X5_readProduct 400 0 _ _ _).trans rfl
set_option maxRecDepth 20000 in
theorem q_X5_readProduct_8 (X : Nat × (Nat → Int32)) (C : sm_C) (i0 : Nat) (x1 : Int32) (x2 : Int32) (x3 : Int32) (d4 : sm_V) (d5 : sm_V) (s : sm_S) : sm_go (sm_ZZ X) sm_PP true C 108 8 [vP (15, i0), vI x1, vI x2, vI x3, d4, d5] [] s =
  if 800 < x3 then
   (some (some (some (vI x2)), s))
  else
   (if (s.1 15 i0 6) = 42 then
    (if x2 = 36 then
     (sm_go (sm_ZZ X) sm_PP true C 108 44 [vP (15, i0), vI x1, vI x2, vI x3, vI (s.1 15 i0 7), vU] [vI 1, vI 42, vP (15, i0)] s)
    else
     (sm_go (sm_ZZ X) sm_PP true C 108 44 [vP (15, i0), vI x1, vI x2, vI x3, vI (s.1 15 i0 7), vU] [vI 0, vI 42, vP (15, i0)] s))
   else
    (some (some (some (vI x2)), s))) :=
  (sm_go_x (cd := cd_X5_readProduct) rfl h_X5_readProduct 400 8 _ _ _).trans rfl
set_option maxRecDepth 20000 in
theorem q_X5_readProduct_44 (X : Nat × (Nat → Int32)) (C : sm_C) (i0 : Nat) (x1 : Int32) (d2 : sm_V) (x3 : Int32) (x4 : Int32) (d5 : sm_V) (q100 : Nat × Nat) (x101 : Int32) (x102 : Int32) (s : sm_S) : sm_go (sm_ZZ X) sm_PP true C 108 44 [vP (15, i0), vI x1, d2, vI x3, vI x4, d5] [vI x102, vI x101, vP q100] s =
  if q100.1 = 15 then
   (sm_bV (C 85 [vP q100, vI x101, vI x102] s) sm_tw fun s2 =>
  sm_bI (C 110 [vP (15, i0), vI x1] s2) sm_tw fun y3 s4 =>
  sm_bI (C 109 [vP (15, i0), vI 9, vI y3, vI x4] s4) sm_tw fun y5 s6 =>
  sm_go (sm_ZZ X) sm_PP true C 108 8 [vP (15, i0), vI x1, vI y5, vI (x3 + 1), vI x4, vI y3] [] s6)
  else none :=
  (sm_go_x (cd := cd_X5_readProduct) rfl h_X5_readProduct 400 44 _ _ _).trans rfl
theorem h_X5_finishSign : sm_chain 0 cd_X5_finishSign = true := by decide +kernel
set_option maxRecDepth 20000 in
theorem q_X5_finishSign_0 (X : Nat × (Nat → Int32)) (C : sm_C) (i0 : Nat) (x1 : Int32) (x2 : Int32) (x3 : Int32) (s : sm_S) : sm_go (sm_ZZ X) sm_PP true C 109 0 [vP (15, i0), vI x1, vI x2, vI x3] [] s =
  if x2 = 36 then
   (if (s.2.2.1 15 i0 3).1 = 10 then
    (sm_bI (C 13 [vP (s.2.2.1 15 i0 3), vI x1, vI 0, vI x3] s) sm_tw fun y1 s2 =>
   some (some (some (vI 36)), s2))
   else none)
  else
   (sm_bV (C 83 [vP (15, i0), vI 4, vI x3] s) sm_tw fun s4 =>
   if (s4.2.2.1 15 i0 3).1 = 10 then
    (sm_bI (C 13 [vP (s4.2.2.1 15 i0 3), vI x1, vI 0, vI x3] s4) sm_tw fun y5 s6 =>
   some (some (some (vI 36)), s6))
   else none) :=
  (sm_go_x (cd := cd_X5_finishSign) rfl h_X5_finishSign 400 0 _ _ _).trans rfl
theorem h_X5_readUnit : sm_chain 0 cd_X5_readUnit = true := by decide +kernel
set_option maxRecDepth 20000 in
theorem q_X5_readUnit_0 (X : Nat × (Nat → Int32)) (C : sm_C) (i0 : Nat) (x1 : Int32) (s : sm_S) : sm_go (sm_ZZ X) sm_PP true C 110 0 [vP (15, i0), vI x1, vU, vU] [] s =
  sm_bI (C 111 [vP (15, i0), vI x1] s) sm_tw fun y1 s2 =>
  sm_go (sm_ZZ X) sm_PP true C 110 8 [vP (15, i0), vI x1, vI y1, vI 0] [] s2 :=
  (sm_go_x (cd := cd_X5_readUnit) rfl h_X5_readUnit 400 0 _ _ _).trans rfl
set_option maxRecDepth 20000 in
theorem q_X5_readUnit_8 (X : Nat × (Nat → Int32)) (C : sm_C) (i0 : Nat) (x1 : Int32) (x2 : Int32) (x3 : Int32) (s : sm_S) : sm_go (sm_ZZ X) sm_PP true C 110 8 [vP (15, i0), vI x1, vI x2, vI x3] [] s =
  if 800 < x3 then
   (some (some (some (vI x2)), s))
  else
   (if (s.1 15 i0 6) = 91 then
    (sm_bI (C 117 [vP (15, i0), vI x2, vI x1] s) sm_tw fun y1 s2 =>
    sm_go (sm_ZZ X) sm_PP true C 110 8 [vP (15, i0), vI x1, vI y1, vI (x3 + 1)] [] s2)
   else
    (if (s.1 15 i0 6) = 46 then
     (sm_bI (C 118 [vP (15, i0), vI x2] s) sm_tw fun y3 s4 =>
     sm_go (sm_ZZ X) sm_PP true C 110 8 [vP (15, i0), vI x1, vI y3, vI (x3 + 1)] [] s4)
    else
     (if (s.1 15 i0 6) = 213 then
      (sm_bI (C 119 [vP (15, i0), vI x2] s) sm_tw fun y5 s6 =>
      sm_go (sm_ZZ X) sm_PP true C 110 8 [vP (15, i0), vI x1, vI y5, vI (x3 + 1)] [] s6)
     else
      (if (s.1 15 i0 6) = 212 then
       (sm_bI (C 119 [vP (15, i0), vI x2] s) sm_tw fun y7 s8 =>
       sm_go (sm_ZZ X) sm_PP true C 110 8 [vP (15, i0), vI x1, vI y7, vI (x3 + 1)] [] s8)
      else
       (some (some (some (vI x2)), s)))))) :=
  (sm_go_x (cd := cd_X5_readUnit) rfl h_X5_readUnit 400 8 _ _ _).trans rfl
theorem h_X5_readFirst : sm_chain 0 cd_X5_readFirst = true := by decide +kernel
set_option maxRecDepth 20000 in
theorem q_X5_readFirst_0 (X : Nat × (Nat → Int32)) (C : sm_C) (i0 : Nat) (x1 : Int32) (s : sm_S) : sm_go (sm_ZZ X) sm_PP true C 111 0 [vP (15, i0), vI x1, vU, vU] [] s =
  if (s.1 15 i0 6) = 3 then
   (if (s.1 15 i0 9) = 40 then
    (sm_bI (C 114 [vP (15, i0), vI x1] s) sm_tw fun y1 s2 =>
    some (some (some (vI y1)), s2))
   else
    (sm_bI (C 113 [vP (15, i0)] s) sm_tw fun y3 s4 =>
    some (some (some (vI y3)), s4)))
  else if (s.1 15 i0 6) = 4 then
   (sm_bI (C 112 [vP (15, i0), vI 1, vI (s.1 15 i0 7)] s) sm_tw fun y5 s6 =>
   some (some (some (vI y5)), s6))
  else if (s.1 15 i0 6) = 40 then
   (sm_bV (C 87 [vP (15, i0), vI 40, vI x1] s) sm_tw fun s8 =>
   sm_bI (C 106 [vP (15, i0), vI (x1 + 1)] s8) sm_tw fun y9 s10 =>
   sm_bV (C 86 [vP (15, i0), vI 41] s10) sm_tw fun s12 =>
   some (some (some (vI y9)), (sI s12 15 i0 10 4)))
  else if (s.1 15 i0 6) = 45 then
   (sm_bV (C 84 [vP (15, i0)] s) sm_tw fun s14 =>
   sm_bI (C 112 [vP (15, i0), vI (-1), vI (s.1 15 i0 7)] s14) sm_tw fun y15 s16 =>
   some (some (some (vI y15)), s16))
  else if (s.1 15 i0 6) = 210 then
   (sm_bI (C 116 [vP (15, i0), vI x1] s) sm_tw fun y17 s18 =>
   some (some (some (vI y17)), s18))
  else if (s.1 15 i0 6) = 211 then
   (sm_bV (C 84 [vP (15, i0)] s) sm_tw fun s20 =>
   if ((sI s20 15 i0 10 4).2.2.1 15 i0 3).1 = 10 then
    (sm_bI (C 13 [vP ((sI s20 15 i0 10 4).2.2.1 15 i0 3), vI 4, vI 0, vI (s.1 15 i0 7)] (sI s20 15 i0 10 4)) sm_tw fun y21 s22 =>
   some (some (some (vI 37)), s22))
   else none)
  else (sm_bV (C 83 [vP (15, i0), vI 1, vI (s.1 15 i0 7)] s) sm_tw fun s24 =>
   some (some (some (vI 38)), s24)) :=
  (sm_go_x (cd := cd_X5_readFirst) rfl h_X5_readFirst 400 0 _ _ _).trans rfl
theorem h_X5_readNumber : sm_chain 0 cd_X5_readNumber = true := by decide +kernel
set_option maxRecDepth 20000 in
theorem q_X5_readNumber_0 (X : Nat × (Nat → Int32)) (C : sm_C) (i0 : Nat) (x1 : Int32) (x2 : Int32) (s : sm_S) : sm_go (sm_ZZ X) sm_PP true C 112 0 [vP (15, i0), vI x1, vI x2, vU] [] s =
  sm_bV (C 86 [vP (15, i0), vI 4] s) sm_tw fun s2 =>
  if (s2.2.2.1 15 i0 3).1 = 10 then
   (sm_bI (C 13 [vP (s2.2.2.1 15 i0 3), vI 4, vI (x1 * (Int64.toInt32 (s.2.1 15 i0 8))), vI x2] s2) sm_tw fun y3 s4 =>
  some (some (some (vI 36)), (sI s4 15 i0 10 4)))
  else none :=
  (sm_go_x (cd := cd_X5_readNumber) rfl h_X5_readNumber 400 0 _ _ _).trans rfl
theorem h_X5_readValueOfName : sm_chain 0 cd_X5_readValueOfName = true := by decide +kernel
set_option maxRecDepth 20000 in
theorem q_X5_readValueOfName_0 (X : Nat × (Nat → Int32)) (C : sm_C) (i0 : Nat) (s : sm_S) : sm_go (sm_ZZ X) sm_PP true C 113 0 [vP (15, i0), vU] [] s =
  sm_bI (C 79 [vP (14, i0), vL (s.2.1 15 i0 8)] s) sm_tw fun y1 s2 =>
  if y1 = (-1) then
   (sm_bV (C 83 [vP (15, i0), vI 2, vI (s2.1 15 i0 7)] s2) sm_tw fun s4 =>
   sm_go (sm_ZZ X) sm_PP true C 113 26 [vP (15, i0), vI y1] [] s4)
  else
   (sm_go (sm_ZZ X) sm_PP true C 113 26 [vP (15, i0), vI y1] [] s2) :=
  (sm_go_x (cd := cd_X5_readValueOfName) rfl h_X5_readValueOfName 400 0 _ _ _).trans rfl
set_option maxRecDepth 20000 in
theorem q_X5_readValueOfName_26 (X : Nat × (Nat → Int32)) (C : sm_C) (i0 : Nat) (x1 : Int32) (s : sm_S) : sm_go (sm_ZZ X) sm_PP true C 113 26 [vP (15, i0), vI x1] [] s =
  if (s.2.2.1 15 i0 3).1 = 10 then
   (sm_bI (C 13 [vP (s.2.2.1 15 i0 3), vI 5, vI x1, vI (s.1 15 i0 7)] s) sm_tw fun y1 s2 =>
  sm_bV (C 84 [vP (15, i0)] s2) sm_tw fun s4 =>
  sm_bI (C 80 [vP (14, i0), vI x1] (sI s4 15 i0 10 0)) sm_tw fun y5 s6 =>
  some (some (some (vI y5)), s6))
  else none :=
  (sm_go_x (cd := cd_X5_readValueOfName) rfl h_X5_readValueOfName 400 26 _ _ _).trans rfl
theorem h_X5_readCall : sm_chain 0 cd_X5_readCall = true := by decide +kernel
set_option maxRecDepth 20000 in
theorem q_X5_readCall_0 (X : Nat × (Nat → Int32)) (C : sm_C) (i0 : Nat) (x1 : Int32) (s : sm_S) : sm_go (sm_ZZ X) sm_PP true C 114 0 [vP (15, i0), vI x1, vU, vU, vU, vU] [] s =
  sm_bI (C 90 [vP (15, i0), vL (s.2.1 15 i0 8)] s) sm_tw fun y1 s2 =>
  if y1 = (-1) then
   (sm_bV (C 83 [vP (15, i0), vI 2, vI (s2.1 15 i0 7)] s2) sm_tw fun s4 =>
   sm_go (sm_ZZ X) sm_PP true C 114 28 [vP (15, i0), vI x1, vI (s.1 15 i0 7), vI y1, vU, vU] [] s4)
  else
   (sm_go (sm_ZZ X) sm_PP true C 114 28 [vP (15, i0), vI x1, vI (s.1 15 i0 7), vI y1, vU, vU] [] s2) :=
  (sm_go_x (cd := cd_X5_readCall) rfl h_X5_readCall 400 0 _ _ _).trans rfl
set_option maxRecDepth 20000 in
theorem q_X5_readCall_28 (X : Nat × (Nat → Int32)) (C : sm_C) (i0 : Nat) (x1 : Int32) (x2 : Int32) (x3 : Int32) (d4 : sm_V) (d5 : sm_V) (s : sm_S) : sm_go (sm_ZZ X) sm_PP true C 114 28 [vP (15, i0), vI x1, vI x2, vI x3, d4, d5] [] s =
  sm_bV (C 84 [vP (15, i0)] s) sm_tw fun s2 =>
  sm_bV (C 87 [vP (15, i0), vI 40, vI x1] s2) sm_tw fun s4 =>
  if (s4.1 15 i0 6) = 41 then
   (sm_go (sm_ZZ X) sm_PP true C 114 107 [vP (15, i0), vI x1, vI x2, vI x3, vI 0, vU] [] s4)
  else
   (sm_bV (C 115 [vP (15, i0), vI x3, vI 0, vI (x1 + 1)] s4) sm_tw fun s6 =>
   sm_go (sm_ZZ X) sm_PP true C 114 67 [vP (15, i0), vI x1, vI x2, vI x3, vI (0 + 1), vI 0] [] s6) :=
  (sm_go_x (cd := cd_X5_readCall) rfl h_X5_readCall 400 28 _ _ _).trans rfl
set_option maxRecDepth 20000 in
theorem q_X5_readCall_67 (X : Nat × (Nat → Int32)) (C : sm_C) (i0 : Nat) (x1 : Int32) (x2 : Int32) (x3 : Int32) (x4 : Int32) (x5 : Int32) (s : sm_S) : sm_go (sm_ZZ X) sm_PP true C 114 67 [vP (15, i0), vI x1, vI x2, vI x3, vI x4, vI x5] [] s =
  if 800 < x5 then
   (sm_go (sm_ZZ X) sm_PP true C 114 107 [vP (15, i0), vI x1, vI x2, vI x3, vI x4, vI x5] [] s)
  else
   (if (s.1 15 i0 6) = 44 then
    (sm_bV (C 84 [vP (15, i0)] s) sm_tw fun s2 =>
    sm_bV (C 115 [vP (15, i0), vI x3, vI x4, vI (x1 + 1)] s2) sm_tw fun s4 =>
    sm_go (sm_ZZ X) sm_PP true C 114 67 [vP (15, i0), vI x1, vI x2, vI x3, vI (x4 + 1), vI (x5 + 1)] [] s4)
   else
    (sm_go (sm_ZZ X) sm_PP true C 114 107 [vP (15, i0), vI x1, vI x2, vI x3, vI x4, vI x5] [] s)) :=
  (sm_go_x (cd := cd_X5_readCall) rfl h_X5_readCall 400 67 _ _ _).trans rfl
set_option maxRecDepth 20000 in
theorem q_X5_readCall_107 (X : Nat × (Nat → Int32)) (C : sm_C) (i0 : Nat) (d1 : sm_V) (x2 : Int32) (x3 : Int32) (x4 : Int32) (d5 : sm_V) (s : sm_S) : sm_go (sm_ZZ X) sm_PP true C 114 107 [vP (15, i0), d1, vI x2, vI x3, vI x4, d5] [] s =
  if (s.2.2.1 15 i0 3).1 = 10 then
   (sm_bI (C 8 [vP (s.2.2.1 15 i0 3), vI x3] s) sm_tw fun y1 s2 =>
  if x4 < y1 then
   (sm_go (sm_ZZ X) sm_PP true C 114 128 [vP (15, i0), vU, vI x2, vI x3, vI x4, vU] [vI 0, vI 41, vP (15, i0)] s2)
  else
   (sm_go (sm_ZZ X) sm_PP true C 114 128 [vP (15, i0), vU, vI x2, vI x3, vI x4, vU] [vI 1, vI 41, vP (15, i0)] s2))
  else none :=
  (sm_go_x (cd := cd_X5_readCall) rfl h_X5_readCall 400 107 _ _ _).trans rfl
set_option maxRecDepth 20000 in
theorem q_X5_readCall_128 (X : Nat × (Nat → Int32)) (C : sm_C) (i0 : Nat) (d1 : sm_V) (x2 : Int32) (x3 : Int32) (d4 : sm_V) (d5 : sm_V) (q100 : Nat × Nat) (x101 : Int32) (x102 : Int32) (s : sm_S) : sm_go (sm_ZZ X) sm_PP true C 114 128 [vP (15, i0), d1, vI x2, vI x3, d4, d5] [vI x102, vI x101, vP q100] s =
  if q100.1 = 15 then
   (sm_bV (C 85 [vP q100, vI x101, vI x102] s) sm_tw fun s2 =>
  if x3 < 5 then
   (if (s2.2.2.1 15 i0 3).1 = 10 then
    (sm_bI (C 13 [vP (s2.2.2.1 15 i0 3), vI (28 + x3), vI 0, vI x2] s2) sm_tw fun y3 s4 =>
   if ((sI s4 15 i0 10 1).2.2.1 15 i0 3).1 = 10 then
    (sm_bI (C 10 [vP ((sI s4 15 i0 10 1).2.2.1 15 i0 3), vI x3] (sI s4 15 i0 10 1)) sm_tw fun y5 s6 =>
   some (some (some (vI y5)), s6))
   else none)
   else none)
  else
   (if (s2.2.2.1 15 i0 3).1 = 10 then
    (sm_bI (C 13 [vP (s2.2.2.1 15 i0 3), vI 27, vI x3, vI x2] s2) sm_tw fun y7 s8 =>
   if ((sI s8 15 i0 10 1).2.2.1 15 i0 3).1 = 10 then
    (sm_bI (C 10 [vP ((sI s8 15 i0 10 1).2.2.1 15 i0 3), vI x3] (sI s8 15 i0 10 1)) sm_tw fun y9 s10 =>
   some (some (some (vI y9)), s10))
   else none)
   else none))
  else none :=
  (sm_go_x (cd := cd_X5_readCall) rfl h_X5_readCall 400 128 _ _ _).trans rfl
theorem h_X5_readArgument : sm_chain 0 cd_X5_readArgument = true := by decide +kernel
set_option maxRecDepth 20000 in
theorem q_X5_readArgument_0 (X : Nat × (Nat → Int32)) (C : sm_C) (i0 : Nat) (x1 : Int32) (x2 : Int32) (x3 : Int32) (s : sm_S) : sm_go (sm_ZZ X) sm_PP true C 115 0 [vP (15, i0), vI x1, vI x2, vI x3, vU, vU] [] s =
  sm_bI (C 106 [vP (15, i0), vI x3] s) sm_tw fun y1 s2 =>
  if (s2.1 15 i0 6) = 44 then
   (sm_go (sm_ZZ X) sm_PP true C 115 30 [vP (15, i0), vI x1, vI x2, vI x3, vI y1, vU] [vI 1] s2)
  else
   (if (s2.1 15 i0 6) = 41 then
    (sm_go (sm_ZZ X) sm_PP true C 115 30 [vP (15, i0), vI x1, vI x2, vI x3, vI y1, vU] [vI 1] s2)
   else
    (sm_go (sm_ZZ X) sm_PP true C 115 30 [vP (15, i0), vI x1, vI x2, vI x3, vI y1, vU] [vI 0] s2)) :=
  (sm_go_x (cd := cd_X5_readArgument) rfl h_X5_readArgument 400 0 _ _ _).trans rfl
set_option maxRecDepth 20000 in
theorem q_X5_readArgument_30 (X : Nat × (Nat → Int32)) (C : sm_C) (i0 : Nat) (x1 : Int32) (x2 : Int32) (d3 : sm_V) (x4 : Int32) (d5 : sm_V) (x100 : Int32) (s : sm_S) : sm_go (sm_ZZ X) sm_PP true C 115 30 [vP (15, i0), vI x1, vI x2, d3, vI x4, d5] [vI x100] s =
  if x100 = 0 then
   (some (some none, s))
  else
   (if (s.2.2.1 15 i0 3).1 = 10 then
    (sm_bI (C 9 [vP (s.2.2.1 15 i0 3), vI x1, vI x2] s) sm_tw fun y1 s2 =>
   sm_bI (C 28 [vI x4, vI y1] s2) sm_tw fun y3 s4 =>
   if y3 = 0 then
    (sm_bV (C 83 [vP (15, i0), vI 4, vI (s4.1 15 i0 7)] s4) sm_tw fun s6 =>
    some (some none, s6))
   else
    (some (some none, s4)))
   else none) :=
  (sm_go_x (cd := cd_X5_readArgument) rfl h_X5_readArgument 400 30 _ _ _).trans rfl
theorem h_X5_readNew : sm_chain 0 cd_X5_readNew = true := by decide +kernel
set_option maxRecDepth 20000 in
theorem q_X5_readNew_0 (X : Nat × (Nat → Int32)) (C : sm_C) (i0 : Nat) (x1 : Int32) (s : sm_S) : sm_go (sm_ZZ X) sm_PP true C 116 0 [vP (15, i0), vI x1, vU, vU, vU] [] s =
  sm_bV (C 84 [vP (15, i0)] s) sm_tw fun s2 =>
  if (s2.1 15 i0 6) = 5 then
   (if (Int64.toInt32 (s2.2.1 15 i0 8)) = 36 then
    (sm_bV (C 83 [vP (15, i0), vI 1, vI (s2.1 15 i0 7)] s2) sm_tw fun s4 =>
    sm_go (sm_ZZ X) sm_PP true C 116 38 [vP (15, i0), vI x1, vI (s.1 15 i0 7), vI (Int64.toInt32 (s2.2.1 15 i0 8)), vU] [] s4)
   else
    (sm_go (sm_ZZ X) sm_PP true C 116 38 [vP (15, i0), vI x1, vI (s.1 15 i0 7), vI (Int64.toInt32 (s2.2.1 15 i0 8)), vU] [] s2))
  else
   (sm_bV (C 83 [vP (15, i0), vI 1, vI (s2.1 15 i0 7)] s2) sm_tw fun s6 =>
   sm_go (sm_ZZ X) sm_PP true C 116 38 [vP (15, i0), vI x1, vI (s.1 15 i0 7), vI (Int64.toInt32 (s2.2.1 15 i0 8)), vU] [] s6) :=
  (sm_go_x (cd := cd_X5_readNew) rfl h_X5_readNew 400 0 _ _ _).trans rfl
set_option maxRecDepth 20000 in
theorem q_X5_readNew_38 (X : Nat × (Nat → Int32)) (C : sm_C) (i0 : Nat) (x1 : Int32) (x2 : Int32) (x3 : Int32) (d4 : sm_V) (s : sm_S) : sm_go (sm_ZZ X) sm_PP true C 116 38 [vP (15, i0), vI x1, vI x2, vI x3, d4] [] s =
  sm_bV (C 84 [vP (15, i0)] s) sm_tw fun s2 =>
  if (s2.1 15 i0 6) = 40 then
   (sm_bI (C 23 [vI x3] s2) sm_tw fun y3 s4 =>
   if y3 = 0 then
    (sm_go (sm_ZZ X) sm_PP true C 116 90 [vP (15, i0), vI x1, vI x2, vI x3, vU] [] s4)
   else
    (sm_bV (C 87 [vP (15, i0), vI 40, vI x1] s4) sm_tw fun s6 =>
    sm_bV (C 86 [vP (15, i0), vI 41] s6) sm_tw fun s8 =>
    if (s8.2.2.1 15 i0 3).1 = 10 then
     (sm_bI (C 13 [vP (s8.2.2.1 15 i0 3), vI 20, vI x3, vI x2] s8) sm_tw fun y9 s10 =>
    some (some (some (vI x3)), (sI s10 15 i0 10 4)))
    else none))
  else
   (sm_go (sm_ZZ X) sm_PP true C 116 90 [vP (15, i0), vI x1, vI x2, vI x3, vU] [] s2) :=
  (sm_go_x (cd := cd_X5_readNew) rfl h_X5_readNew 400 38 _ _ _).trans rfl
set_option maxRecDepth 20000 in
theorem q_X5_readNew_90 (X : Nat × (Nat → Int32)) (C : sm_C) (i0 : Nat) (x1 : Int32) (x2 : Int32) (x3 : Int32) (d4 : sm_V) (s : sm_S) : sm_go (sm_ZZ X) sm_PP true C 116 90 [vP (15, i0), vI x1, vI x2, vI x3, d4] [] s =
  sm_bV (C 87 [vP (15, i0), vI 91, vI x1] s) sm_tw fun s2 =>
  sm_bI (C 106 [vP (15, i0), vI (x1 + 1)] s2) sm_tw fun y3 s4 =>
  if y3 = 36 then
   (sm_go (sm_ZZ X) sm_PP true C 116 121 [vP (15, i0), vI x1, vI x2, vI x3, vI y3] [vI 1, vI 93, vP (15, i0)] s4)
  else
   (sm_go (sm_ZZ X) sm_PP true C 116 121 [vP (15, i0), vI x1, vI x2, vI x3, vI y3] [vI 0, vI 93, vP (15, i0)] s4) :=
  (sm_go_x (cd := cd_X5_readNew) rfl h_X5_readNew 400 90 _ _ _).trans rfl
set_option maxRecDepth 20000 in
theorem q_X5_readNew_121 (X : Nat × (Nat → Int32)) (C : sm_C) (i0 : Nat) (d1 : sm_V) (x2 : Int32) (x3 : Int32) (d4 : sm_V) (q100 : Nat × Nat) (x101 : Int32) (x102 : Int32) (s : sm_S) : sm_go (sm_ZZ X) sm_PP true C 116 121 [vP (15, i0), d1, vI x2, vI x3, d4] [vI x102, vI x101, vP q100] s =
  if q100.1 = 15 then
   (sm_bV (C 85 [vP q100, vI x101, vI x102] s) sm_tw fun s2 =>
  if (s2.2.2.1 15 i0 3).1 = 10 then
   (sm_bI (C 13 [vP (s2.2.2.1 15 i0 3), vI 21, vI x3, vI x2] s2) sm_tw fun y3 s4 =>
  some (some (some (vI (18 + x3))), (sI s4 15 i0 10 4)))
  else none)
  else none :=
  (sm_go_x (cd := cd_X5_readNew) rfl h_X5_readNew 400 121 _ _ _).trans rfl
theorem h_X5_readIndex : sm_chain 0 cd_X5_readIndex = true := by decide +kernel
set_option maxRecDepth 20000 in
theorem q_X5_readIndex_0 (X : Nat × (Nat → Int32)) (C : sm_C) (i0 : Nat) (x1 : Int32) (x2 : Int32) (s : sm_S) : sm_go (sm_ZZ X) sm_PP true C 117 0 [vP (15, i0), vI x1, vI x2, vU, vU] [] s =
  sm_bV (C 87 [vP (15, i0), vI 91, vI x2] s) sm_tw fun s2 =>
  sm_bI (C 106 [vP (15, i0), vI (x2 + 1)] s2) sm_tw fun y3 s4 =>
  sm_bI (C 25 [vI x1] s4) sm_tw fun y5 s6 =>
  if y5 = 0 then
   (sm_go (sm_ZZ X) sm_PP true C 117 43 [vP (15, i0), vI x1, vI x2, vI (s.1 15 i0 7), vI y3] [vI 0, vI 93, vP (15, i0)] s6)
  else
   (if y3 = 36 then
    (sm_go (sm_ZZ X) sm_PP true C 117 43 [vP (15, i0), vI x1, vI x2, vI (s.1 15 i0 7), vI y3] [vI 1, vI 93, vP (15, i0)] s6)
   else
    (sm_go (sm_ZZ X) sm_PP true C 117 43 [vP (15, i0), vI x1, vI x2, vI (s.1 15 i0 7), vI y3] [vI 0, vI 93, vP (15, i0)] s6)) :=
  (sm_go_x (cd := cd_X5_readIndex) rfl h_X5_readIndex 400 0 _ _ _).trans rfl
set_option maxRecDepth 20000 in
theorem q_X5_readIndex_43 (X : Nat × (Nat → Int32)) (C : sm_C) (i0 : Nat) (x1 : Int32) (d2 : sm_V) (x3 : Int32) (d4 : sm_V) (q100 : Nat × Nat) (x101 : Int32) (x102 : Int32) (s : sm_S) : sm_go (sm_ZZ X) sm_PP true C 117 43 [vP (15, i0), vI x1, d2, vI x3, d4] [vI x102, vI x101, vP q100] s =
  if q100.1 = 15 then
   (sm_bV (C 85 [vP q100, vI x101, vI x102] s) sm_tw fun s2 =>
  if (s2.2.2.1 15 i0 3).1 = 10 then
   (sm_bI (C 13 [vP (s2.2.2.1 15 i0 3), vI 15, vI 0, vI x3] s2) sm_tw fun y3 s4 =>
  some (some (some (vI (x1 - 18))), (sI s4 15 i0 10 2)))
  else none)
  else none :=
  (sm_go_x (cd := cd_X5_readIndex) rfl h_X5_readIndex 400 43 _ _ _).trans rfl
theorem h_X5_readMember : sm_chain 0 cd_X5_readMember = true := by decide +kernel
set_option maxRecDepth 20000 in
theorem q_X5_readMember_0 (X : Nat × (Nat → Int32)) (C : sm_C) (i0 : Nat) (x1 : Int32) (s : sm_S) : sm_go (sm_ZZ X) sm_PP true C 118 0 [vP (15, i0), vI x1, vU, vU] [] s =
  sm_bV (C 84 [vP (15, i0)] s) sm_tw fun s2 =>
  if (s2.1 15 i0 6) = 214 then
   (sm_bI (C 25 [vI x1] s2) sm_tw fun y3 s4 =>
   sm_bV (C 85 [vP (15, i0), vI 214, vI y3] s4) sm_tw fun s6 =>
   if (s6.2.2.1 15 i0 3).1 = 10 then
    (sm_bI (C 13 [vP (s6.2.2.1 15 i0 3), vI 19, vI 0, vI (s2.1 15 i0 7)] s6) sm_tw fun y7 s8 =>
   some (some (some (vI 36)), (sI s8 15 i0 10 4)))
   else none)
  else
   (sm_bI (C 133 [vP (5, 4), vL (s2.2.1 15 i0 8)] s2) sm_tw fun y9 s10 =>
   if (s10.1 15 i0 6) = 3 then
    (if y9 < 0 then
     (sm_bV (C 83 [vP (15, i0), vI 2, vI (s10.1 15 i0 7)] s10) sm_tw fun s12 =>
     sm_go (sm_ZZ X) sm_PP true C 118 131 [vP (15, i0), vI x1, vI (s2.1 15 i0 7), vI y9] [] s12)
    else
     (if y9 < (Int32.ofNat (sm_tb 4).length) then
      (sm_ix y9 (sm_tb 4).length fun z13 =>
      sm_bI (C 28 [vI x1, vI ((sm_tb 4).getD z13 0)] s10) sm_tw fun y14 s15 =>
      sm_bV (C 85 [vP (15, i0), vI 3, vI y14] s15) sm_tw fun s17 =>
      if (s17.2.2.1 15 i0 3).1 = 10 then
       (sm_bI (C 13 [vP (s17.2.2.1 15 i0 3), vI 17, vI y9, vI (s2.1 15 i0 7)] s17) sm_tw fun y18 s19 =>
      sm_go (sm_ZZ X) sm_PP true C 118 131 [vP (15, i0), vI x1, vI (s2.1 15 i0 7), vI y9] [] s19)
      else none)
     else
      (sm_bV (C 83 [vP (15, i0), vI 2, vI (s10.1 15 i0 7)] s10) sm_tw fun s21 =>
      sm_go (sm_ZZ X) sm_PP true C 118 131 [vP (15, i0), vI x1, vI (s2.1 15 i0 7), vI y9] [] s21)))
   else
    (sm_bV (C 83 [vP (15, i0), vI 1, vI (s10.1 15 i0 7)] s10) sm_tw fun s23 =>
    sm_go (sm_ZZ X) sm_PP true C 118 131 [vP (15, i0), vI x1, vI (s2.1 15 i0 7), vI y9] [] s23)) :=
  (sm_go_x (cd := cd_X5_readMember) rfl h_X5_readMember 400 0 _ _ _).trans rfl
set_option maxRecDepth 20000 in
theorem q_X5_readMember_131 (X : Nat × (Nat → Int32)) (C : sm_C) (i0 : Nat) (d1 : sm_V) (d2 : sm_V) (x3 : Int32) (s : sm_S) : sm_go (sm_ZZ X) sm_PP true C 118 131 [vP (15, i0), d1, d2, vI x3] [] s =
  if x3 = 1 then
   (some (some (some (vI 0)), (sI s 15 i0 10 3)))
  else
   (some (some (some (vI 36)), (sI s 15 i0 10 3))) :=
  (sm_go_x (cd := cd_X5_readMember) rfl h_X5_readMember 400 131 _ _ _).trans rfl
theorem h_X5_readAsked : sm_chain 0 cd_X5_readAsked = true := by decide +kernel
set_option maxRecDepth 20000 in
theorem q_X5_readAsked_0 (X : Nat × (Nat → Int32)) (C : sm_C) (i0 : Nat) (x1 : Int32) (s : sm_S) : sm_go (sm_ZZ X) sm_PP true C 119 0 [vP (15, i0), vI x1, vU, vU, vU] [] s =
  if (s.1 15 i0 6) = 213 then
   (sm_go (sm_ZZ X) sm_PP true C 119 15 [vP (15, i0), vI x1, vU, vU, vU] [vI 1] s)
  else
   (sm_go (sm_ZZ X) sm_PP true C 119 15 [vP (15, i0), vI x1, vU, vU, vU] [vI 0] s) :=
  (sm_go_x (cd := cd_X5_readAsked) rfl h_X5_readAsked 400 0 _ _ _).trans rfl
set_option maxRecDepth 20000 in
theorem q_X5_readAsked_15 (X : Nat × (Nat → Int32)) (C : sm_C) (i0 : Nat) (x1 : Int32) (d2 : sm_V) (d3 : sm_V) (d4 : sm_V) (x100 : Int32) (s : sm_S) : sm_go (sm_ZZ X) sm_PP true C 119 15 [vP (15, i0), vI x1, d2, d3, d4] [vI x100] s =
  sm_bV (C 84 [vP (15, i0)] s) sm_tw fun s2 =>
  sm_bI (C 94 [vP (15, i0)] s2) sm_tw fun y3 s4 =>
  sm_bI (C 29 [vI x1, vI y3] s4) sm_tw fun y5 s6 =>
  if y5 = 0 then
   (sm_bV (C 83 [vP (15, i0), vI 4, vI (s6.1 15 i0 7)] s6) sm_tw fun s8 =>
   sm_go (sm_ZZ X) sm_PP true C 119 49 [vP (15, i0), vI x1, vI x100, vI (s.1 15 i0 7), vI y3] [] s8)
  else
   (sm_go (sm_ZZ X) sm_PP true C 119 49 [vP (15, i0), vI x1, vI x100, vI (s.1 15 i0 7), vI y3] [] s6) :=
  (sm_go_x (cd := cd_X5_readAsked) rfl h_X5_readAsked 400 15 _ _ _).trans rfl
set_option maxRecDepth 20000 in
theorem q_X5_readAsked_49 (X : Nat × (Nat → Int32)) (C : sm_C) (i0 : Nat) (d1 : sm_V) (x2 : Int32) (x3 : Int32) (x4 : Int32) (s : sm_S) : sm_go (sm_ZZ X) sm_PP true C 119 49 [vP (15, i0), d1, vI x2, vI x3, vI x4] [] s =
  sm_bV (C 84 [vP (15, i0)] s) sm_tw fun s2 =>
  if x2 = 0 then
   (sm_go (sm_ZZ X) sm_PP true C 119 68 [vP (15, i0), vU, vI x2, vI x3, vI x4] [vI 14, vP (s2.2.2.1 15 i0 3)] s2)
  else
   (sm_go (sm_ZZ X) sm_PP true C 119 68 [vP (15, i0), vU, vI x2, vI x3, vI x4] [vI 13, vP (s2.2.2.1 15 i0 3)] s2) :=
  (sm_go_x (cd := cd_X5_readAsked) rfl h_X5_readAsked 400 49 _ _ _).trans rfl
set_option maxRecDepth 20000 in
theorem q_X5_readAsked_68 (X : Nat × (Nat → Int32)) (C : sm_C) (i0 : Nat) (d1 : sm_V) (x2 : Int32) (x3 : Int32) (x4 : Int32) (q100 : Nat × Nat) (x101 : Int32) (s : sm_S) : sm_go (sm_ZZ X) sm_PP true C 119 68 [vP (15, i0), d1, vI x2, vI x3, vI x4] [vI x101, vP q100] s =
  if q100.1 = 10 then
   (sm_bI (C 13 [vP q100, vI x101, vI x4, vI x3] s) sm_tw fun y1 s2 =>
  if x2 = 0 then
   (some (some (some (vI 36)), (sI s2 15 i0 10 4)))
  else
   (some (some (some (vI x4)), (sI s2 15 i0 10 4))))
  else none :=
  (sm_go_x (cd := cd_X5_readAsked) rfl h_X5_readAsked 400 68 _ _ _).trans rfl
theorem h_X6_hasPlace : sm_chain 0 cd_X6_hasPlace = true := by decide +kernel
set_option maxRecDepth 20000 in
theorem q_X6_hasPlace_0 (X : Nat × (Nat → Int32)) (C : sm_C) (i0 : Nat) (x1 : Int32) (s : sm_S) : sm_go (sm_ZZ X) sm_PP true C 121 0 [vP (16, i0), vI x1] [] s =
  if x1 < 0 then
   (some (some (some (vI 0)), s))
  else
   (if x1 < (s.1 16 i0 2) then
    (some (some (some (vI 1)), s))
   else
    (some (some (some (vI 0)), s))) :=
  (sm_go_x (cd := cd_X6_hasPlace) rfl h_X6_hasPlace 400 0 _ _ _).trans rfl
theorem h_X6_vehicleAt : sm_chain 0 cd_X6_vehicleAt = true := by decide +kernel
set_option maxRecDepth 20000 in
theorem q_X6_vehicleAt_0 (X : Nat × (Nat → Int32)) (C : sm_C) (i0 : Nat) (x1 : Int32) (s : sm_S) : sm_go (sm_ZZ X) sm_PP true C 122 0 [vP (16, i0), vI x1] [] s =
  sm_bI (C 121 [vP (16, i0), vI x1] s) sm_tw fun y1 s2 =>
  if y1 = 0 then
   (some (some (some (vP (0, 0))), s2))
  else
   (sm_rq (s2.2.2.1 16 i0 3) 51 fun j3 =>
   sm_ix x1 (s2.2.2.2.1 51 j3) fun z4 =>
   some (some (some (vP (s2.2.2.1 51 j3 z4))), s2)) :=
  (sm_go_x (cd := cd_X6_vehicleAt) rfl h_X6_vehicleAt 400 0 _ _ _).trans rfl
theorem h_X6_put : sm_chain 0 cd_X6_put = true := by decide +kernel
set_option maxRecDepth 20000 in
theorem q_X6_put_0 (X : Nat × (Nat → Int32)) (C : sm_C) (i0 : Nat) (x1 : Int32) (q2 : Nat × Nat) (s : sm_S) : sm_go (sm_ZZ X) sm_PP true C 123 0 [vP (16, i0), vI x1, vP q2] [] s =
  sm_bI (C 121 [vP (16, i0), vI x1] s) sm_tw fun y1 s2 =>
  if y1 = 0 then
   (some (some none, s2))
  else
   (sm_rq (s2.2.2.1 16 i0 3) 51 fun j3 =>
   sm_ix x1 (s2.2.2.2.1 51 j3) fun z4 =>
   if q2.1 = 0 ∨ q2.1 = 19 then
    (some (some none, (sR s2 51 j3 z4 q2)))
   else none) :=
  (sm_go_x (cd := cd_X6_put) rfl h_X6_put 400 0 _ _ _).trans rfl
end
