section
theorem h_X6_takes : sm_chain 0 cd_X6_takes = true := by decide +kernel
set_option maxRecDepth 20000 in
theorem q_X6_takes_0 (X : Nat × (Nat → Int32)) (C : sm_C) (i0 : Nat) (q1 : Nat × Nat) (s : sm_S) : sm_go (sm_ZZ X) sm_PP true C 124 0 [vP (16, i0), vP q1] [] s =
  if q1.1 = 0 then
   (some (some (some (vI 1)), s))
  else
   (sm_rq q1 19 fun j1 =>
   sm_bI (C 27 [vI (s.1 19 j1 0), vI (s.1 16 i0 0)] s) sm_tw fun y2 s3 =>
   if y2 = 0 then
    (some (some (some (vI 0)), s3))
   else
    (some (some (some (vI 1)), s3))) :=
  (sm_go_x (cd := cd_X6_takes) rfl h_X6_takes 400 0 _ _ _).trans rfl
theorem h_X6_humpInto : sm_chain 0 cd_X6_humpInto = true := by decide +kernel
set_option maxRecDepth 20000 in
theorem q_X6_humpInto_0 (X : Nat × (Nat → Int32)) (C : sm_C) (i0 : Nat) (q1 : Nat × Nat) (s : sm_S) : sm_go (sm_ZZ X) sm_PP true C 125 0 [vP (16, i0), vP q1, vU, vU, vU, vU] [] s =
  sm_go (sm_ZZ X) sm_PP true C 125 7 [vP (16, i0), vP q1, vI 0, vI 0, vI 0, vU] [] s :=
  (sm_go_x (cd := cd_X6_humpInto) rfl h_X6_humpInto 400 0 _ _ _).trans rfl
set_option maxRecDepth 20000 in
theorem q_X6_humpInto_7 (X : Nat × (Nat → Int32)) (C : sm_C) (i0 : Nat) (q1 : Nat × Nat) (x2 : Int32) (x3 : Int32) (x4 : Int32) (d5 : sm_V) (s : sm_S) : sm_go (sm_ZZ X) sm_PP true C 125 7 [vP (16, i0), vP q1, vI x2, vI x3, vI x4, d5] [] s =
  if x4 < (s.1 16 i0 2) then
   (if (16, i0) = q1 then
    (some (some (some (vI x2)), s))
   else if ((16, i0).1 = 0 ∨ 10 ≤ (16, i0).1) ∧ (q1.1 = 0 ∨ 10 ≤ q1.1) then
    (sm_rq (s.2.2.1 16 i0 3) 51 fun j1 =>
    sm_ix x4 (s.2.2.2.1 51 j1) fun z2 =>
    if (s.2.2.1 51 j1 z2).1 = 0 then
     (sm_go (sm_ZZ X) sm_PP true C 125 7 [vP (16, i0), vP q1, vI x2, vI x3, vI (x4 + 1), vP (s.2.2.1 51 j1 z2)] [] s)
    else
     (if q1.1 = 16 then
      (sm_bI (C 124 [vP q1, vP (s.2.2.1 51 j1 z2)] s) sm_tw fun y3 s4 =>
     if y3 = 0 then
      (sm_go (sm_ZZ X) sm_PP true C 125 7 [vP (16, i0), vP q1, vI x2, vI x3, vI (x4 + 1), vP (s.2.2.1 51 j1 z2)] [] s4)
     else
      (if q1.1 = 16 then
       (sm_bI (C 126 [vP q1, vI x3] s4) sm_tw fun y5 s6 =>
      if q1.1 = 16 then
       (sm_bI (C 121 [vP q1, vI y5] s6) sm_tw fun y7 s8 =>
      if y7 = 0 then
       (some (some (some (vI x2)), s8))
      else
       (if q1.1 = 16 then
        (sm_bV (C 123 [vP q1, vI y5, vP (s.2.2.1 51 j1 z2)] s8) sm_tw fun s10 =>
       sm_rq (s10.2.2.1 16 i0 3) 51 fun j11 =>
       sm_ix x4 (s10.2.2.2.1 51 j11) fun z12 =>
       sm_go (sm_ZZ X) sm_PP true C 125 7 [vP (16, i0), vP q1, vI (x2 + 1), vI y5, vI (x4 + 1), vP (s.2.2.1 51 j1 z2)] [] (sR s10 51 j11 z12 (0, 0)))
       else none))
      else none)
      else none))
     else none))
   else none)
  else
   (some (some (some (vI x2)), s)) :=
  (sm_go_x (cd := cd_X6_humpInto) rfl h_X6_humpInto 400 7 _ _ _).trans rfl
theorem h_X6_firstFree : sm_chain 0 cd_X6_firstFree = true := by decide +kernel
set_option maxRecDepth 20000 in
theorem q_X6_firstFree_0 (X : Nat × (Nat → Int32)) (C : sm_C) (i0 : Nat) (x1 : Int32) (s : sm_S) : sm_go (sm_ZZ X) sm_PP true C 126 0 [vP (16, i0), vI x1, vU] [] s =
  sm_bI (C 306 [vI 0, vI x1] s) sm_tw fun y1 s2 =>
  sm_go (sm_ZZ X) sm_PP true C 126 6 [vP (16, i0), vI x1, vI y1] [] s2 :=
  (sm_go_x (cd := cd_X6_firstFree) rfl h_X6_firstFree 400 0 _ _ _).trans rfl
set_option maxRecDepth 20000 in
theorem q_X6_firstFree_6 (X : Nat × (Nat → Int32)) (C : sm_C) (i0 : Nat) (d1 : sm_V) (x2 : Int32) (s : sm_S) : sm_go (sm_ZZ X) sm_PP true C 126 6 [vP (16, i0), d1, vI x2] [] s =
  if x2 < (s.1 16 i0 2) then
   (sm_rq (s.2.2.1 16 i0 3) 51 fun j1 =>
   sm_ix x2 (s.2.2.2.1 51 j1) fun z2 =>
   if (s.2.2.1 51 j1 z2).1 = 0 then
    (some (some (some (vI x2)), s))
   else
    (sm_go (sm_ZZ X) sm_PP true C 126 6 [vP (16, i0), vU, vI (x2 + 1)] [] s))
  else
   (some (some (some (vI (s.1 16 i0 2))), s)) :=
  (sm_go_x (cd := cd_X6_firstFree) rfl h_X6_firstFree 400 6 _ _ _).trans rfl
theorem h_X6_sum : sm_chain 0 cd_X6_sum = true := by decide +kernel
set_option maxRecDepth 20000 in
theorem q_X6_sum_0 (X : Nat × (Nat → Int32)) (C : sm_C) (i0 : Nat) (x1 : Int32) (s : sm_S) : sm_go (sm_ZZ X) sm_PP true C 127 0 [vP (16, i0), vI x1, vU, vU, vU] [] s =
  sm_go (sm_ZZ X) sm_PP true C 127 4 [vP (16, i0), vI x1, vI 0, vI 0, vU] [] s :=
  (sm_go_x (cd := cd_X6_sum) rfl h_X6_sum 400 0 _ _ _).trans rfl
set_option maxRecDepth 20000 in
theorem q_X6_sum_4 (X : Nat × (Nat → Int32)) (C : sm_C) (i0 : Nat) (x1 : Int32) (x2 : Int32) (x3 : Int32) (d4 : sm_V) (s : sm_S) : sm_go (sm_ZZ X) sm_PP true C 127 4 [vP (16, i0), vI x1, vI x2, vI x3, d4] [] s =
  if x3 < (s.1 16 i0 2) then
   (sm_rq (s.2.2.1 16 i0 3) 51 fun j1 =>
   sm_ix x3 (s.2.2.2.1 51 j1) fun z2 =>
   if (s.2.2.1 51 j1 z2).1 = 0 then
    (sm_go (sm_ZZ X) sm_PP true C 127 4 [vP (16, i0), vI x1, vI x2, vI (x3 + 1), vP (s.2.2.1 51 j1 z2)] [] s)
   else
    (if (s.2.2.1 51 j1 z2).1 = 19 then
     (sm_bI (C 149 [vP (s.2.2.1 51 j1 z2), vI x1] s) sm_tw fun y3 s4 =>
    sm_go (sm_ZZ X) sm_PP true C 127 4 [vP (16, i0), vI x1, vI (x2 + y3), vI (x3 + 1), vP (s.2.2.1 51 j1 z2)] [] s4)
    else none))
  else
   (some (some (some (vI x2)), s)) :=
  (sm_go_x (cd := cd_X6_sum) rfl h_X6_sum 400 4 _ _ _).trans rfl
theorem h_X6_burn : sm_chain 0 cd_X6_burn = true := by decide +kernel
set_option maxRecDepth 20000 in
theorem q_X6_burn_0 (X : Nat × (Nat → Int32)) (C : sm_C) (i0 : Nat) (s : sm_S) : sm_go (sm_ZZ X) sm_PP true C 128 0 [vP (16, i0), vU, vU] [] s =
  sm_go (sm_ZZ X) sm_PP true C 128 2 [vP (16, i0), vI 0, vU] [] s :=
  (sm_go_x (cd := cd_X6_burn) rfl h_X6_burn 400 0 _ _ _).trans rfl
set_option maxRecDepth 20000 in
theorem q_X6_burn_2 (X : Nat × (Nat → Int32)) (C : sm_C) (i0 : Nat) (x1 : Int32) (d2 : sm_V) (s : sm_S) : sm_go (sm_ZZ X) sm_PP true C 128 2 [vP (16, i0), vI x1, d2] [] s =
  if x1 < (s.1 16 i0 2) then
   (sm_rq (s.2.2.1 16 i0 3) 51 fun j1 =>
   sm_ix x1 (s.2.2.2.1 51 j1) fun z2 =>
   if (s.2.2.1 51 j1 z2).1 = 0 then
    (sm_go (sm_ZZ X) sm_PP true C 128 2 [vP (16, i0), vI (x1 + 1), vP (s.2.2.1 51 j1 z2)] [] s)
   else
    (if (s.2.2.1 51 j1 z2).1 = 19 then
     (sm_bV (C 152 [vP (s.2.2.1 51 j1 z2)] s) sm_tw fun s4 =>
    sm_go (sm_ZZ X) sm_PP true C 128 2 [vP (16, i0), vI (x1 + 1), vP (s.2.2.1 51 j1 z2)] [] s4)
    else none))
  else
   (some (some none, s)) :=
  (sm_go_x (cd := cd_X6_burn) rfl h_X6_burn 400 2 _ _ _).trans rfl
theorem h_X7_hasRoom : sm_chain 0 cd_X7_hasRoom = true := by decide +kernel
set_option maxRecDepth 20000 in
theorem q_X7_hasRoom_0 (X : Nat × (Nat → Int32)) (C : sm_C) (i0 : Nat) (s : sm_S) : sm_go (sm_ZZ X) sm_PP true C 130 0 [vP (17, i0)] [] s =
  if 3000 < ((s.1 17 i0 1) + 20) then
   (some (some (some (vI 0)), s))
  else
   (some (some (some (vI 1)), s)) :=
  (sm_go_x (cd := cd_X7_hasRoom) rfl h_X7_hasRoom 400 0 _ _ _).trans rfl
theorem h_X7_add : sm_chain 0 cd_X7_add = true := by decide +kernel
set_option maxRecDepth 20000 in
theorem q_X7_add_0 (X : Nat × (Nat → Int32)) (C : sm_C) (i0 : Nat) (x1 : Int32) (s : sm_S) : sm_go (sm_ZZ X) sm_PP true C 131 0 [vP (17, i0), vI x1, vU] [] s =
  sm_go (sm_ZZ X) sm_PP true C 131 3 [vP (17, i0), vI x1, vI 24] [] s :=
  (sm_go_x (cd := cd_X7_add) rfl h_X7_add 400 0 _ _ _).trans rfl
set_option maxRecDepth 20000 in
theorem q_X7_add_3 (X : Nat × (Nat → Int32)) (C : sm_C) (i0 : Nat) (x1 : Int32) (x2 : Int32) (s : sm_S) : sm_go (sm_ZZ X) sm_PP true C 131 3 [vP (17, i0), vI x1, vI x2] [] s =
  if x2 < 0 then
   (some (some none, s))
  else
   (if (s.1 17 i0 1) < 3000 then
    (sm_ix (s.1 17 i0 1) 3000 fun z1 =>
    sm_go (sm_ZZ X) sm_PP true C 131 3 [vP (17, i0), vI x1, vI (x2 + (-8))] [] (sI (sI s 52 i0 z1 (Int8.toInt32 (Int32.toInt8 (Int8.toInt32 (Int32.toInt8 (x1 >>> (x2 &&& 31))))))) 17 i0 1 (((sI s 52 i0 z1 (Int8.toInt32 (Int32.toInt8 (Int8.toInt32 (Int32.toInt8 (x1 >>> (x2 &&& 31))))))).1 17 i0 1) + 1)))
   else
    (sm_go (sm_ZZ X) sm_PP true C 131 3 [vP (17, i0), vI x1, vI (x2 + (-8))] [] s)) :=
  (sm_go_x (cd := cd_X7_add) rfl h_X7_add 400 3 _ _ _).trans rfl
theorem h_X7_cut : sm_chain 0 cd_X7_cut = true := by decide +kernel
set_option maxRecDepth 20000 in
theorem q_X7_cut_0 (X : Nat × (Nat → Int32)) (C : sm_C) (i0 : Nat) (x1 : Int32) (s : sm_S) : sm_go (sm_ZZ X) sm_PP true C 132 0 [vP (17, i0), vI x1, vU, vU] [] s =
  sm_bI (C 307 [vI x1, vI 3000] s) sm_tw fun y1 s2 =>
  sm_go (sm_ZZ X) sm_PP true C 132 25 [vP (17, i0), vI x1, vI 3, vI 0] [] (sI (sI (sI s2 17 i0 2 y1) 17 i0 3 0) 17 i0 7 0) :=
  (sm_go_x (cd := cd_X7_cut) rfl h_X7_cut 400 0 _ _ _).trans rfl
set_option maxRecDepth 20000 in
theorem q_X7_cut_25 (X : Nat × (Nat → Int32)) (C : sm_C) (i0 : Nat) (d1 : sm_V) (x2 : Int32) (x3 : Int32) (s : sm_S) : sm_go (sm_ZZ X) sm_PP true C 132 25 [vP (17, i0), d1, vI x2, vI x3] [] s =
  if x3 < 802 then
   (if x2 = 6 then
    (some (some none, s))
   else
    (if x2 = 7 then
     (some (some none, s))
    else
     (sm_bI (C 139 [vP (17, i0), vI x3] s) sm_tw fun y1 s2 =>
     sm_ix x3 802 fun z3 =>
     sm_go (sm_ZZ X) sm_PP true C 132 25 [vP (17, i0), vU, vI y1, vI (x3 + 1)] [] (sI (sI s2 53 i0 z3 y1) 17 i0 7 (((sI s2 53 i0 z3 y1).1 17 i0 7) + 1)))))
  else
   (some (some none, s)) :=
  (sm_go_x (cd := cd_X7_cut) rfl h_X7_cut 400 25 _ _ _).trans rfl
theorem h_X7_indexIn : sm_chain 0 cd_X7_indexIn = true := by decide +kernel
set_option maxRecDepth 20000 in
theorem q_X7_indexIn_0 (X : Nat × (Nat → Int32)) (C : sm_C) (i0 : Nat) (x1 : Int64) (s : sm_S) : sm_go (sm_ZZ X) sm_PP true C 133 0 [vP (5, i0), vL x1, vU, vU, vU, vU, vU, vU] [] s =
  sm_go (sm_ZZ X) sm_PP true C 133 8 [vP (5, i0), vL x1, vU, vL 0, vU, vI 0, vI 0, vU] [] s :=
  (sm_go_x (cd := cd_X7_indexIn) rfl h_X7_indexIn 400 0 _ _ _).trans rfl
set_option maxRecDepth 20000 in
theorem q_X7_indexIn_8 (X : Nat × (Nat → Int32)) (C : sm_C) (i0 : Nat) (x1 : Int64) (d2 : sm_V) (x3 : Int64) (d4 : sm_V) (x5 : Int32) (x6 : Int32) (d7 : sm_V) (s : sm_S) : sm_go (sm_ZZ X) sm_PP true C 133 8 [vP (5, i0), vL x1, d2, vL x3, d4, vI x5, vI x6, d7] [] s =
  sm_bI (C 294 [vP (5, i0)] s) sm_tw fun y1 s2 =>
  if x6 < y1 then
   (sm_bI (C 295 [vP (5, i0), vI x6] s2) sm_tw fun y3 s4 =>
   if y3 = 32 then
    (if (lg_cmp x3 x1) = 0 then
     (some (some (some (vI x5)), s4))
    else
     (sm_go (sm_ZZ X) sm_PP true C 133 8 [vP (5, i0), vL x1, vU, vL 0, vU, vI (x5 + 1), vI (x6 + 1), vI y3] [] s4))
   else
    (sm_bL (C 134 [vL x3, vI y3] s4) sm_tw fun y5 s6 =>
    sm_go (sm_ZZ X) sm_PP true C 133 8 [vP (5, i0), vL x1, vU, vL y5, vU, vI x5, vI (x6 + 1), vI y3] [] s6))
  else
   (some (some (some (vI (-1))), s2)) :=
  (sm_go_x (cd := cd_X7_indexIn) rfl h_X7_indexIn 400 8 _ _ _).trans rfl
theorem h_X7_withSign : sm_chain 0 cd_X7_withSign = true := by decide +kernel
set_option maxRecDepth 20000 in
theorem q_X7_withSign_0 (X : Nat × (Nat → Int32)) (C : sm_C) (x0 : Int64) (x2 : Int32) (s : sm_S) : sm_go (sm_ZZ X) sm_PP true C 134 0 [vL x0, vU, vI x2] [] s =
  some (some (some (vL ((x0 <<< ((7 : Int32).toInt64 &&& 63)) ||| (Int32.toInt64 x2)))), s) :=
  (sm_go_x (cd := cd_X7_withSign) rfl h_X7_withSign 400 0 _ _ _).trans rfl
theorem h_X7_isSmall : sm_chain 0 cd_X7_isSmall = true := by decide +kernel
set_option maxRecDepth 20000 in
theorem q_X7_isSmall_0 (X : Nat × (Nat → Int32)) (C : sm_C) (x0 : Int32) (s : sm_S) : sm_go (sm_ZZ X) sm_PP true C 135 0 [vI x0] [] s =
  if x0 < 97 then
   (some (some (some (vI 0)), s))
  else
   (if 122 < x0 then
    (some (some (some (vI 0)), s))
   else
    (some (some (some (vI 1)), s))) :=
  (sm_go_x (cd := cd_X7_isSmall) rfl h_X7_isSmall 400 0 _ _ _).trans rfl
theorem h_X7_isCapital : sm_chain 0 cd_X7_isCapital = true := by decide +kernel
set_option maxRecDepth 20000 in
theorem q_X7_isCapital_0 (X : Nat × (Nat → Int32)) (C : sm_C) (x0 : Int32) (s : sm_S) : sm_go (sm_ZZ X) sm_PP true C 136 0 [vI x0] [] s =
  if x0 < 65 then
   (some (some (some (vI 0)), s))
  else
   (if 90 < x0 then
    (some (some (some (vI 0)), s))
   else
    (some (some (some (vI 1)), s))) :=
  (sm_go_x (cd := cd_X7_isCapital) rfl h_X7_isCapital 400 0 _ _ _).trans rfl
theorem h_X7_isDigit : sm_chain 0 cd_X7_isDigit = true := by decide +kernel
set_option maxRecDepth 20000 in
theorem q_X7_isDigit_0 (X : Nat × (Nat → Int32)) (C : sm_C) (x0 : Int32) (s : sm_S) : sm_go (sm_ZZ X) sm_PP true C 137 0 [vI x0] [] s =
  if x0 < 48 then
   (some (some (some (vI 0)), s))
  else
   (if 57 < x0 then
    (some (some (some (vI 0)), s))
   else
    (some (some (some (vI 1)), s))) :=
  (sm_go_x (cd := cd_X7_isDigit) rfl h_X7_isDigit 400 0 _ _ _).trans rfl
theorem h_X7_sign : sm_chain 0 cd_X7_sign = true := by decide +kernel
set_option maxRecDepth 20000 in
theorem q_X7_sign_0 (X : Nat × (Nat → Int32)) (C : sm_C) (i0 : Nat) (s : sm_S) : sm_go (sm_ZZ X) sm_PP true C 138 0 [vP (17, i0)] [] s =
  if (s.1 17 i0 3) < 0 then
   (some (some (some (vI 0)), s))
  else
   (if (s.1 17 i0 3) < (s.1 17 i0 2) then
    (sm_ix (s.1 17 i0 3) 3000 fun z1 =>
    some (some (some (vI ((s.1 52 i0 z1) &&& 255))), s))
   else
    (some (some (some (vI 0)), s))) :=
  (sm_go_x (cd := cd_X7_sign) rfl h_X7_sign 400 0 _ _ _).trans rfl
theorem h_X7_cutToken : sm_chain 0 cd_X7_cutToken = true := by decide +kernel
set_option maxRecDepth 20000 in
theorem q_X7_cutToken_0 (X : Nat × (Nat → Int32)) (C : sm_C) (i0 : Nat) (x1 : Int32) (s : sm_S) : sm_go (sm_ZZ X) sm_PP true C 139 0 [vP (17, i0), vI x1] [] s =
  if (s.1 17 i0 3) < (s.1 17 i0 2) then
   (sm_bI (C 138 [vP (17, i0)] s) sm_tw fun y1 s2 =>
   if y1 = 32 then
    (sm_go (sm_ZZ X) sm_PP true C 139 0 [vP (17, i0), vI x1] [] (sI s2 17 i0 3 ((s2.1 17 i0 3) + 1)))
   else
    (sm_bI (C 138 [vP (17, i0)] s2) sm_tw fun y3 s4 =>
    if y3 = 10 then
     (sm_go (sm_ZZ X) sm_PP true C 139 0 [vP (17, i0), vI x1] [] (sI s4 17 i0 3 ((s4.1 17 i0 3) + 1)))
    else
     (sm_go (sm_ZZ X) sm_PP true C 139 42 [vP (17, i0), vI x1] [] s4)))
  else
   (sm_go (sm_ZZ X) sm_PP true C 139 42 [vP (17, i0), vI x1] [] s) :=
  (sm_go_x (cd := cd_X7_cutToken) rfl h_X7_cutToken 400 0 _ _ _).trans rfl
set_option maxRecDepth 20000 in
theorem q_X7_cutToken_42 (X : Nat × (Nat → Int32)) (C : sm_C) (i0 : Nat) (x1 : Int32) (s : sm_S) : sm_go (sm_ZZ X) sm_PP true C 139 42 [vP (17, i0), vI x1] [] s =
  sm_ix x1 802 fun z1 =>
  sm_ix x1 802 fun z2 =>
  if ((sL (sI s 54 i0 z1 (s.1 17 i0 3)) 55 i0 z2 0).1 17 i0 3) < ((sL (sI s 54 i0 z1 (s.1 17 i0 3)) 55 i0 z2 0).1 17 i0 2) then
   (sm_bI (C 138 [vP (17, i0)] (sL (sI s 54 i0 z1 (s.1 17 i0 3)) 55 i0 z2 0)) sm_tw fun y3 s4 =>
   sm_bI (C 135 [vI y3] s4) sm_tw fun y5 s6 =>
   if y5 = 0 then
    (sm_bI (C 138 [vP (17, i0)] s6) sm_tw fun y7 s8 =>
    sm_bI (C 136 [vI y7] s8) sm_tw fun y9 s10 =>
    if y9 = 0 then
     (sm_bI (C 138 [vP (17, i0)] s10) sm_tw fun y11 s12 =>
     sm_bI (C 137 [vI y11] s12) sm_tw fun y13 s14 =>
     if y13 = 0 then
      (sm_bI (C 143 [vP (17, i0)] s14) sm_tw fun y15 s16 =>
      some (some (some (vI y15)), s16))
     else
      (sm_bI (C 142 [vP (17, i0), vI x1] s14) sm_tw fun y17 s18 =>
      some (some (some (vI y17)), s18)))
    else
     (sm_bI (C 141 [vP (17, i0), vI x1] s10) sm_tw fun y19 s20 =>
     some (some (some (vI y19)), s20)))
   else
    (sm_bI (C 140 [vP (17, i0), vI x1] s6) sm_tw fun y21 s22 =>
    some (some (some (vI y21)), s22)))
  else
   (some (some (some (vI 6)), (sL (sI s 54 i0 z1 (s.1 17 i0 3)) 55 i0 z2 0))) :=
  (sm_go_x (cd := cd_X7_cutToken) rfl h_X7_cutToken 400 42 _ _ _).trans rfl
theorem h_X7_cutSmall : sm_chain 0 cd_X7_cutSmall = true := by decide +kernel
set_option maxRecDepth 20000 in
theorem q_X7_cutSmall_0 (X : Nat × (Nat → Int32)) (C : sm_C) (i0 : Nat) (x1 : Int32) (s : sm_S) : sm_go (sm_ZZ X) sm_PP true C 140 0 [vP (17, i0), vI x1, vU, vU, vU, vU] [] s =
  sm_go (sm_ZZ X) sm_PP true C 140 7 [vP (17, i0), vI x1, vI (s.1 17 i0 3), vL 0, vU, vU] [] s :=
  (sm_go_x (cd := cd_X7_cutSmall) rfl h_X7_cutSmall 400 0 _ _ _).trans rfl
set_option maxRecDepth 20000 in
theorem q_X7_cutSmall_7 (X : Nat × (Nat → Int32)) (C : sm_C) (i0 : Nat) (x1 : Int32) (x2 : Int32) (x3 : Int64) (d4 : sm_V) (d5 : sm_V) (s : sm_S) : sm_go (sm_ZZ X) sm_PP true C 140 7 [vP (17, i0), vI x1, vI x2, vL x3, d4, d5] [] s =
  if (s.1 17 i0 3) < (s.1 17 i0 2) then
   (sm_bI (C 138 [vP (17, i0)] s) sm_tw fun y1 s2 =>
   sm_bI (C 135 [vI y1] s2) sm_tw fun y3 s4 =>
   if y3 = 0 then
    (sm_bI (C 138 [vP (17, i0)] s4) sm_tw fun y5 s6 =>
    sm_bI (C 137 [vI y5] s6) sm_tw fun y7 s8 =>
    if y7 = 0 then
     (sm_go (sm_ZZ X) sm_PP true C 140 60 [vP (17, i0), vI x1, vI x2, vL x3, vU, vU] [] s8)
    else
     (sm_go (sm_ZZ X) sm_PP true C 140 38 [vP (17, i0), vI x1, vI x2, vL x3, vU, vU] [] s8))
   else
    (sm_go (sm_ZZ X) sm_PP true C 140 38 [vP (17, i0), vI x1, vI x2, vL x3, vU, vU] [] s4))
  else
   (sm_go (sm_ZZ X) sm_PP true C 140 60 [vP (17, i0), vI x1, vI x2, vL x3, vU, vU] [] s) :=
  (sm_go_x (cd := cd_X7_cutSmall) rfl h_X7_cutSmall 400 7 _ _ _).trans rfl
set_option maxRecDepth 20000 in
theorem q_X7_cutSmall_38 (X : Nat × (Nat → Int32)) (C : sm_C) (i0 : Nat) (x1 : Int32) (x2 : Int32) (x3 : Int64) (d4 : sm_V) (d5 : sm_V) (s : sm_S) : sm_go (sm_ZZ X) sm_PP true C 140 38 [vP (17, i0), vI x1, vI x2, vL x3, d4, d5] [] s =
  sm_bI (C 138 [vP (17, i0)] s) sm_tw fun y1 s2 =>
  sm_bL (C 134 [vL x3, vI y1] s2) sm_tw fun y3 s4 =>
  sm_go (sm_ZZ X) sm_PP true C 140 7 [vP (17, i0), vI x1, vI x2, vL y3, vU, vU] [] (sI s4 17 i0 3 ((s4.1 17 i0 3) + 1)) :=
  (sm_go_x (cd := cd_X7_cutSmall) rfl h_X7_cutSmall 400 38 _ _ _).trans rfl
set_option maxRecDepth 20000 in
theorem q_X7_cutSmall_60 (X : Nat × (Nat → Int32)) (C : sm_C) (i0 : Nat) (x1 : Int32) (x2 : Int32) (x3 : Int64) (d4 : sm_V) (d5 : sm_V) (s : sm_S) : sm_go (sm_ZZ X) sm_PP true C 140 60 [vP (17, i0), vI x1, vI x2, vL x3, d4, d5] [] s =
  if 8 < ((s.1 17 i0 3) - x2) then
   (some (some (some (vI 7)), s))
  else
   (sm_ix x1 802 fun z1 =>
   sm_bI (C 133 [vP (5, 0), vL x3] (sL s 55 i0 z1 x3)) sm_tw fun y2 s3 =>
   if y2 = (-1) then
    (some (some (some (vI 3)), s3))
   else
    (some (some (some (vI (200 + y2))), s3))) :=
  (sm_go_x (cd := cd_X7_cutSmall) rfl h_X7_cutSmall 400 60 _ _ _).trans rfl
theorem h_X7_cutCapitals : sm_chain 0 cd_X7_cutCapitals = true := by decide +kernel
set_option maxRecDepth 20000 in
theorem q_X7_cutCapitals_0 (X : Nat × (Nat → Int32)) (C : sm_C) (i0 : Nat) (x1 : Int32) (s : sm_S) : sm_go (sm_ZZ X) sm_PP true C 141 0 [vP (17, i0), vI x1, vU, vU, vU, vU] [] s =
  sm_go (sm_ZZ X) sm_PP true C 141 7 [vP (17, i0), vI x1, vI (s.1 17 i0 3), vL 0, vU, vU] [] s :=
  (sm_go_x (cd := cd_X7_cutCapitals) rfl h_X7_cutCapitals 400 0 _ _ _).trans rfl
set_option maxRecDepth 20000 in
theorem q_X7_cutCapitals_7 (X : Nat × (Nat → Int32)) (C : sm_C) (i0 : Nat) (x1 : Int32) (x2 : Int32) (x3 : Int64) (d4 : sm_V) (d5 : sm_V) (s : sm_S) : sm_go (sm_ZZ X) sm_PP true C 141 7 [vP (17, i0), vI x1, vI x2, vL x3, d4, d5] [] s =
  if (s.1 17 i0 3) < (s.1 17 i0 2) then
   (sm_bI (C 138 [vP (17, i0)] s) sm_tw fun y1 s2 =>
   sm_bI (C 136 [vI y1] s2) sm_tw fun y3 s4 =>
   if y3 = 0 then
    (sm_go (sm_ZZ X) sm_PP true C 141 50 [vP (17, i0), vI x1, vI x2, vL x3, vU, vU] [] s4)
   else
    (sm_bI (C 138 [vP (17, i0)] s4) sm_tw fun y5 s6 =>
    sm_bL (C 134 [vL x3, vI y5] s6) sm_tw fun y7 s8 =>
    sm_go (sm_ZZ X) sm_PP true C 141 7 [vP (17, i0), vI x1, vI x2, vL y7, vU, vU] [] (sI s8 17 i0 3 ((s8.1 17 i0 3) + 1))))
  else
   (sm_go (sm_ZZ X) sm_PP true C 141 50 [vP (17, i0), vI x1, vI x2, vL x3, vU, vU] [] s) :=
  (sm_go_x (cd := cd_X7_cutCapitals) rfl h_X7_cutCapitals 400 7 _ _ _).trans rfl
set_option maxRecDepth 20000 in
theorem q_X7_cutCapitals_50 (X : Nat × (Nat → Int32)) (C : sm_C) (i0 : Nat) (x1 : Int32) (x2 : Int32) (x3 : Int64) (d4 : sm_V) (d5 : sm_V) (s : sm_S) : sm_go (sm_ZZ X) sm_PP true C 141 50 [vP (17, i0), vI x1, vI x2, vL x3, d4, d5] [] s =
  sm_bI (C 133 [vP (5, 1), vL x3] s) sm_tw fun y1 s2 =>
  if y1 = (-1) then
   (some (some (some (vI 7)), s2))
  else
   (if 8 < ((s2.1 17 i0 3) - x2) then
    (some (some (some (vI 7)), s2))
   else
    (if y1 = 18 then
     (sm_ix x1 802 fun z3 =>
     some (some (some (vI 5)), (sL s2 55 i0 z3 36)))
    else
     (sm_ix x1 802 fun z4 =>
     some (some (some (vI 5)), (sL s2 55 i0 z4 (Int32.toInt64 y1)))))) :=
  (sm_go_x (cd := cd_X7_cutCapitals) rfl h_X7_cutCapitals 400 50 _ _ _).trans rfl
theorem h_X7_cutNumber : sm_chain 0 cd_X7_cutNumber = true := by decide +kernel
set_option maxRecDepth 20000 in
theorem q_X7_cutNumber_0 (X : Nat × (Nat → Int32)) (C : sm_C) (i0 : Nat) (x1 : Int32) (s : sm_S) : sm_go (sm_ZZ X) sm_PP true C 142 0 [vP (17, i0), vI x1, vU, vU, vU, vU] [] s =
  sm_go (sm_ZZ X) sm_PP true C 142 7 [vP (17, i0), vI x1, vI (s.1 17 i0 3), vL 0, vU, vU] [] s :=
  (sm_go_x (cd := cd_X7_cutNumber) rfl h_X7_cutNumber 400 0 _ _ _).trans rfl
set_option maxRecDepth 20000 in
theorem q_X7_cutNumber_7 (X : Nat × (Nat → Int32)) (C : sm_C) (i0 : Nat) (x1 : Int32) (x2 : Int32) (x3 : Int64) (d4 : sm_V) (d5 : sm_V) (s : sm_S) : sm_go (sm_ZZ X) sm_PP true C 142 7 [vP (17, i0), vI x1, vI x2, vL x3, d4, d5] [] s =
  if (s.1 17 i0 3) < (s.1 17 i0 2) then
   (sm_bI (C 138 [vP (17, i0)] s) sm_tw fun y1 s2 =>
   sm_bI (C 137 [vI y1] s2) sm_tw fun y3 s4 =>
   if y3 = 0 then
    (sm_go (sm_ZZ X) sm_PP true C 142 56 [vP (17, i0), vI x1, vI x2, vL x3, vU, vU] [] s4)
   else
    (sm_bI (C 138 [vP (17, i0)] s4) sm_tw fun y5 s6 =>
    sm_go (sm_ZZ X) sm_PP true C 142 7 [vP (17, i0), vI x1, vI x2, vL ((x3 * 10) + (Int32.toInt64 (y5 - 48))), vU, vU] [] (sI s6 17 i0 3 ((s6.1 17 i0 3) + 1))))
  else
   (sm_go (sm_ZZ X) sm_PP true C 142 56 [vP (17, i0), vI x1, vI x2, vL x3, vU, vU] [] s) :=
  (sm_go_x (cd := cd_X7_cutNumber) rfl h_X7_cutNumber 400 7 _ _ _).trans rfl
set_option maxRecDepth 20000 in
theorem q_X7_cutNumber_56 (X : Nat × (Nat → Int32)) (C : sm_C) (i0 : Nat) (x1 : Int32) (x2 : Int32) (x3 : Int64) (d4 : sm_V) (d5 : sm_V) (s : sm_S) : sm_go (sm_ZZ X) sm_PP true C 142 56 [vP (17, i0), vI x1, vI x2, vL x3, d4, d5] [] s =
  sm_ix x1 802 fun z1 =>
  sm_bI (C 138 [vP (17, i0)] (sL s 55 i0 z1 x3)) sm_tw fun y2 s3 =>
  sm_bI (C 135 [vI y2] s3) sm_tw fun y4 s5 =>
  if y4 = 0 then
   (sm_bI (C 138 [vP (17, i0)] s5) sm_tw fun y6 s7 =>
   sm_bI (C 136 [vI y6] s7) sm_tw fun y8 s9 =>
   if y8 = 0 then
    (sm_go (sm_ZZ X) sm_PP true C 142 88 [vP (17, i0), vI x1, vI x2, vL x3, vU, vU] [vI 0] s9)
   else
    (sm_go (sm_ZZ X) sm_PP true C 142 88 [vP (17, i0), vI x1, vI x2, vL x3, vU, vU] [vI 1] s9))
  else
   (sm_go (sm_ZZ X) sm_PP true C 142 88 [vP (17, i0), vI x1, vI x2, vL x3, vU, vU] [vI 1] s5) :=
  (sm_go_x (cd := cd_X7_cutNumber) rfl h_X7_cutNumber 400 56 _ _ _).trans rfl
set_option maxRecDepth 20000 in
theorem q_X7_cutNumber_88 (X : Nat × (Nat → Int32)) (C : sm_C) (i0 : Nat) (d1 : sm_V) (x2 : Int32) (d3 : sm_V) (d4 : sm_V) (d5 : sm_V) (x100 : Int32) (s : sm_S) : sm_go (sm_ZZ X) sm_PP true C 142 88 [vP (17, i0), d1, vI x2, d3, d4, d5] [vI x100] s =
  if x100 = 0 then
   (if 9 < ((s.1 17 i0 3) - x2) then
    (some (some (some (vI 7)), s))
   else
    (some (some (some (vI 4)), s)))
  else
   (some (some (some (vI 7)), s)) :=
  (sm_go_x (cd := cd_X7_cutNumber) rfl h_X7_cutNumber 400 88 _ _ _).trans rfl
theorem h_X7_cutSign : sm_chain 0 cd_X7_cutSign = true := by decide +kernel
set_option maxRecDepth 20000 in
theorem q_X7_cutSign_0 (X : Nat × (Nat → Int32)) (C : sm_C) (i0 : Nat) (s : sm_S) : sm_go (sm_ZZ X) sm_PP true C 143 0 [vP (17, i0), vU] [] s =
  sm_bI (C 138 [vP (17, i0)] s) sm_tw fun y1 s2 =>
  sm_bI (C 138 [vP (17, i0)] (sI s2 17 i0 3 ((s2.1 17 i0 3) + 1))) sm_tw fun y3 s4 =>
  if y3 = 61 then
   (if y1 = 61 then
    (sm_go (sm_ZZ X) sm_PP true C 143 36 [vP (17, i0), vI y1] [] s4)
   else
    (if y1 = 33 then
     (sm_go (sm_ZZ X) sm_PP true C 143 36 [vP (17, i0), vI y1] [] s4)
    else
     (sm_go (sm_ZZ X) sm_PP true C 143 58 [vP (17, i0), vI y1] [] s4)))
  else
   (sm_go (sm_ZZ X) sm_PP true C 143 58 [vP (17, i0), vI y1] [] s4) :=
  (sm_go_x (cd := cd_X7_cutSign) rfl h_X7_cutSign 400 0 _ _ _).trans rfl
set_option maxRecDepth 20000 in
theorem q_X7_cutSign_36 (X : Nat × (Nat → Int32)) (C : sm_C) (i0 : Nat) (x1 : Int32) (s : sm_S) : sm_go (sm_ZZ X) sm_PP true C 143 36 [vP (17, i0), vI x1] [] s =
  if x1 = 61 then
   (some (some (some (vI 1)), (sI s 17 i0 3 ((s.1 17 i0 3) + 1))))
  else
   (some (some (some (vI 2)), (sI s 17 i0 3 ((s.1 17 i0 3) + 1)))) :=
  (sm_go_x (cd := cd_X7_cutSign) rfl h_X7_cutSign 400 36 _ _ _).trans rfl
set_option maxRecDepth 20000 in
theorem q_X7_cutSign_58 (X : Nat × (Nat → Int32)) (C : sm_C) (d0 : sm_V) (x1 : Int32) (s : sm_S) : sm_go (sm_ZZ X) sm_PP true C 143 58 [d0, vI x1] [] s =
  sm_bI (C 296 [vP (5, 2), vI (UInt32.toInt32 (Int32.toUInt32 x1 % 65536))] s) sm_tw fun y1 s2 =>
  if y1 = (-1) then
   (some (some (some (vI 7)), s2))
  else
   (some (some (some (vI x1)), s2)) :=
  (sm_go_x (cd := cd_X7_cutSign) rfl h_X7_cutSign 400 58 _ _ _).trans rfl
theorem h_X8_move : sm_chain 0 cd_X8_move = true := by decide +kernel
set_option maxRecDepth 20000 in
theorem q_X8_move_0 (X : Nat × (Nat → Int32)) (C : sm_C) (i0 : Nat) (s : sm_S) : sm_go (sm_ZZ X) sm_PP true C 145 0 [vP (18, i0)] [] s =
  sm_bI (C 146 [vP (18, i0)] s) sm_tw fun y1 s2 =>
  sm_bI (C 306 [vI 0, vI (((sI s2 18 i0 3 y1).1 18 i0 2) - ((sI s2 18 i0 3 y1).1 18 i0 3))] (sI s2 18 i0 3 y1)) sm_tw fun y3 s4 =>
  if 0 < ((sI s4 18 i0 2 y3).1 18 i0 3) then
   (if ((sI s4 18 i0 2 y3).2.2.1 18 i0 0).1 = 16 then
    (sm_bV (C 128 [vP ((sI s4 18 i0 2 y3).2.2.1 18 i0 0)] (sI s4 18 i0 2 y3)) sm_tw fun s6 =>
   some (some none, s6))
   else none)
  else
   (some (some none, (sI s4 18 i0 2 y3))) :=
  (sm_go_x (cd := cd_X8_move) rfl h_X8_move 400 0 _ _ _).trans rfl
theorem h_X8_reckonSpeed : sm_chain 0 cd_X8_reckonSpeed = true := by decide +kernel
set_option maxRecDepth 20000 in
theorem q_X8_reckonSpeed_0 (X : Nat × (Nat → Int32)) (C : sm_C) (i0 : Nat) (s : sm_S) : sm_go (sm_ZZ X) sm_PP true C 146 0 [vP (18, i0), vU, vU] [] s =
  if (s.2.2.1 18 i0 0).1 = 16 then
   (sm_bI (C 127 [vP (s.2.2.1 18 i0 0), vI 2] s) sm_tw fun y1 s2 =>
  if y1 < 1 then
   (some (some (some (vI 0)), s2))
  else
   (if (s2.2.2.1 18 i0 0).1 = 16 then
    (sm_bI (C 127 [vP (s2.2.2.1 18 i0 0), vI 3] s2) sm_tw fun y3 s4 =>
   if (s4.2.2.1 18 i0 0).1 = 16 then
    (sm_bI (C 127 [vP (s4.2.2.1 18 i0 0), vI 4] s4) sm_tw fun y5 s6 =>
   if y1 = 0 then none else
   sm_bI (C 307 [vI (y5 / y1), vI ((y3 / 5) + 1)] s6) sm_tw fun y7 s8 =>
   sm_bI (C 306 [vI 0, vI y7] s8) sm_tw fun y9 s10 =>
   some (some (some (vI y9)), s10))
   else none)
   else none))
  else none :=
  (sm_go_x (cd := cd_X8_reckonSpeed) rfl h_X8_reckonSpeed 400 0 _ _ _).trans rfl
theorem h_X9_isReckoned : sm_chain 0 cd_X9_isReckoned = true := by decide +kernel
set_option maxRecDepth 20000 in
theorem q_X9_isReckoned_0 (X : Nat × (Nat → Int32)) (C : sm_C) (x0 : Int32) (s : sm_S) : sm_go (sm_ZZ X) sm_PP true C 148 0 [vI x0] [] s =
  if x0 = 2 then
   (some (some (some (vI 1)), s))
  else
   (if x0 = 3 then
    (some (some (some (vI 1)), s))
   else
    (if x0 = 4 then
     (some (some (some (vI 1)), s))
    else
     (some (some (some (vI 0)), s)))) :=
  (sm_go_x (cd := cd_X9_isReckoned) rfl h_X9_isReckoned 400 0 _ _ _).trans rfl
theorem h_X9_field : sm_chain 0 cd_X9_field = true := by decide +kernel
set_option maxRecDepth 20000 in
theorem q_X9_field_0 (X : Nat × (Nat → Int32)) (C : sm_C) (i0 : Nat) (x1 : Int32) (s : sm_S) : sm_go (sm_ZZ X) sm_PP true C 149 0 [vP (19, i0), vI x1] [] s =
  if x1 = 0 then
   (some (some (some (vI (s.1 19 i0 2))), s))
  else if x1 = 1 then
   (some (some (some (vI (s.1 19 i0 3))), s))
  else if x1 = 2 then
   (sm_bI (C 153 [vP (19, i0)] s) sm_tw fun y1 s2 =>
   some (some (some (vI y1)), s2))
  else if x1 = 3 then
   (sm_bI (C 154 [vP (19, i0)] s) sm_tw fun y3 s4 =>
   some (some (some (vI y3)), s4))
  else if x1 = 4 then
   (sm_bI (C 155 [vP (19, i0)] s) sm_tw fun y5 s6 =>
   some (some (some (vI y5)), s6))
  else if x1 = 5 then
   (some (some (some (vI (s.1 19 i0 4))), s))
  else if x1 = 6 then
   (some (some (some (vI (s.1 19 i0 5))), s))
  else if x1 = 7 then
   (some (some (some (vI (s.1 19 i0 6))), s))
  else if x1 = 8 then
   (some (some (some (vI (s.1 19 i0 7))), s))
  else (some (some (some (vI 0)), s)) :=
  (sm_go_x (cd := cd_X9_field) rfl h_X9_field 400 0 _ _ _).trans rfl
theorem h_X9_setField : sm_chain 0 cd_X9_setField = true := by decide +kernel
set_option maxRecDepth 20000 in
theorem q_X9_setField_0 (X : Nat × (Nat → Int32)) (C : sm_C) (i0 : Nat) (x1 : Int32) (x2 : Int32) (s : sm_S) : sm_go (sm_ZZ X) sm_PP true C 150 0 [vP (19, i0), vI x1, vI x2] [] s =
  if x1 = 0 then
   (some (some none, (sI s 19 i0 2 x2)))
  else if x1 = 1 then
   (some (some none, (sI s 19 i0 3 x2)))
  else if x1 = 2 then
   (some (some none, s))
  else if x1 = 3 then
   (some (some none, s))
  else if x1 = 4 then
   (some (some none, s))
  else if x1 = 5 then
   (some (some none, (sI s 19 i0 4 x2)))
  else if x1 = 6 then
   (some (some none, (sI s 19 i0 5 x2)))
  else if x1 = 7 then
   (some (some none, (sI s 19 i0 6 x2)))
  else if x1 = 8 then
   (some (some none, (sI s 19 i0 7 x2)))
  else (some (some none, s)) :=
  (sm_go_x (cd := cd_X9_setField) rfl h_X9_setField 400 0 _ _ _).trans rfl
theorem h_X9_tell : sm_chain 0 cd_X9_tell = true := by decide +kernel
set_option maxRecDepth 20000 in
theorem q_X9_tell_0 (X : Nat × (Nat → Int32)) (C : sm_C) (i0 : Nat) (x1 : Int32) (s : sm_S) : sm_go (sm_ZZ X) sm_PP true C 151 0 [vP (19, i0), vI x1, vU] [] s =
  if x1 < 0 then
   (some (some (some (vI (-1))), s))
  else
   (if 9 < x1 then
    (some (some (some (vI (-1))), s))
   else
    (if x1 = 0 then
     (some (some (some (vI (s.1 19 i0 0))), s))
    else
     (sm_bI (C 149 [vP (19, i0), vI (x1 - 1)] s) sm_tw fun y1 s2 =>
     if (x1 - 1) = 1 then
      (some (some (some (vI (y1 - 1))), s2))
     else
      (some (some (some (vI y1)), s2))))) :=
  (sm_go_x (cd := cd_X9_tell) rfl h_X9_tell 400 0 _ _ _).trans rfl
theorem h_X9_burn : sm_chain 0 cd_X9_burn = true := by decide +kernel
set_option maxRecDepth 20000 in
theorem q_X9_burn_0 (X : Nat × (Nat → Int32)) (C : sm_C) (i0 : Nat) (s : sm_S) : sm_go (sm_ZZ X) sm_PP true C 152 0 [vP (19, i0)] [] s =
  if 0 < (s.1 19 i0 7) then
   (some (some none, (sI s 19 i0 7 ((s.1 19 i0 7) - 1))))
  else
   (some (some none, s)) :=
  (sm_go_x (cd := cd_X9_burn) rfl h_X9_burn 400 0 _ _ _).trans rfl
theorem h_X9_mass : sm_chain 0 cd_X9_mass = true := by decide +kernel
set_option maxRecDepth 20000 in
theorem q_X9_mass_0 (X : Nat × (Nat → Int32)) (C : sm_C) (i0 : Nat) (s : sm_S) : sm_go (sm_ZZ X) sm_PP true C 153 0 [vP (19, i0)] [] s =
  if (s.1 19 i0 0) = 1 then
   (some (some (some (vI 45)), s))
  else if (s.1 19 i0 0) = 2 then
   (some (some (some (vI 15)), s))
  else if (s.1 19 i0 0) = 3 then
   (some (some (some (vI (45 + (s.1 19 i0 7)))), s))
  else if (s.1 19 i0 0) = 4 then
   (some (some (some (vI (45 + ((s.1 19 i0 7) / 2)))), s))
  else if (s.1 19 i0 0) = 5 then
   (some (some (some (vI (15 + (s.1 19 i0 4)))), s))
  else if (s.1 19 i0 0) = 6 then
   (some (some (some (vI (15 + (2 * (s.1 19 i0 4))))), s))
  else if (s.1 19 i0 0) = 7 then
   (some (some (some (vI (15 + (s.1 19 i0 4)))), s))
  else if (s.1 19 i0 0) = 8 then
   (some (some (some (vI 17)), s))
  else if (s.1 19 i0 0) = 9 then
   (some (some (some (vI ((45 + ((s.1 19 i0 7) / 2)) - 20))), s))
  else if (s.1 19 i0 0) = 10 then
   (some (some (some (vI (((15 + (s.1 19 i0 4)) + (s.1 19 i0 7)) + 3))), s))
  else if (s.1 19 i0 0) = 11 then
   (if (s.1 19 i0 5) < 0 then
    (some (some (some (vI ((15 + (2 * (s.1 19 i0 4))) + 1))), s))
   else
    (some (some (some (vI ((15 + (2 * (s.1 19 i0 4))) + 0))), s)))
  else if (s.1 19 i0 0) = 12 then
   (some (some (some (vI ((15 + (s.1 19 i0 4)) + (s.1 19 i0 6)))), s))
  else (some (some (some (vI 5)), s)) :=
  (sm_go_x (cd := cd_X9_mass) rfl h_X9_mass 400 0 _ _ _).trans rfl
theorem h_X9_grip : sm_chain 0 cd_X9_grip = true := by decide +kernel
set_option maxRecDepth 20000 in
theorem q_X9_grip_0 (X : Nat × (Nat → Int32)) (C : sm_C) (i0 : Nat) (s : sm_S) : sm_go (sm_ZZ X) sm_PP true C 154 0 [vP (19, i0)] [] s =
  if (s.1 19 i0 0) = 1 then
   (some (some (some (vI 10)), s))
  else if (s.1 19 i0 0) = 2 then
   (some (some (some (vI 0)), s))
  else if (s.1 19 i0 0) = 3 then
   (some (some (some (vI 15)), s))
  else if (s.1 19 i0 0) = 4 then
   (some (some (some (vI 20)), s))
  else if (s.1 19 i0 0) = 5 then
   (some (some (some (vI 0)), s))
  else if (s.1 19 i0 0) = 6 then
   (some (some (some (vI 0)), s))
  else if (s.1 19 i0 0) = 7 then
   (some (some (some (vI 0)), s))
  else if (s.1 19 i0 0) = 8 then
   (some (some (some (vI 25)), s))
  else if (s.1 19 i0 0) = 9 then
   (some (some (some (vI 17)), s))
  else (some (some (some (vI 0)), s)) :=
  (sm_go_x (cd := cd_X9_grip) rfl h_X9_grip 400 0 _ _ _).trans rfl
theorem h_X9_pull : sm_chain 0 cd_X9_pull = true := by decide +kernel
set_option maxRecDepth 20000 in
theorem q_X9_pull_0 (X : Nat × (Nat → Int32)) (C : sm_C) (i0 : Nat) (s : sm_S) : sm_go (sm_ZZ X) sm_PP true C 155 0 [vP (19, i0)] [] s =
  if (s.1 19 i0 0) = 3 then
   (some (some (some (vI (20 * (s.1 19 i0 7)))), s))
  else if (s.1 19 i0 0) = 4 then
   (some (some (some (vI 300)), s))
  else if (s.1 19 i0 0) = 9 then
   (some (some (some (vI 150)), s))
  else (some (some (some (vI 0)), s)) :=
  (sm_go_x (cd := cd_X9_pull) rfl h_X9_pull 400 0 _ _ _).trans rfl
theorem h_X10_hasRoomForVehicle : sm_chain 0 cd_X10_hasRoomForVehicle = true := by decide +kernel
set_option maxRecDepth 20000 in
theorem q_X10_hasRoomForVehicle_0 (X : Nat × (Nat → Int32)) (C : sm_C) (i0 : Nat) (s : sm_S) : sm_go (sm_ZZ X) sm_PP true C 157 0 [vP (20, i0)] [] s =
  if (s.1 20 i0 2) < 300 then
   (some (some (some (vI 1)), s))
  else
   (some (some (some (vI 0)), s)) :=
  (sm_go_x (cd := cd_X10_hasRoomForVehicle) rfl h_X10_hasRoomForVehicle 400 0 _ _ _).trans rfl
theorem h_X10_hasRoomForRow : sm_chain 0 cd_X10_hasRoomForRow = true := by decide +kernel
set_option maxRecDepth 20000 in
theorem q_X10_hasRoomForRow_0 (X : Nat × (Nat → Int32)) (C : sm_C) (i0 : Nat) (x1 : Int32) (s : sm_S) : sm_go (sm_ZZ X) sm_PP true C 158 0 [vP (20, i0), vI x1] [] s =
  if (s.1 20 i0 3) < 200 then
   (if 40 < x1 then
    (some (some (some (vI 0)), s))
   else
    (if 2000 < ((s.1 20 i0 4) + x1) then
     (some (some (some (vI 0)), s))
    else
     (some (some (some (vI 1)), s))))
  else
   (some (some (some (vI 0)), s)) :=
  (sm_go_x (cd := cd_X10_hasRoomForRow) rfl h_X10_hasRoomForRow 400 0 _ _ _).trans rfl
theorem h_X10_makeVehicle : sm_chain 0 cd_X10_makeVehicle = true := by decide +kernel
set_option maxRecDepth 20000 in
theorem q_X10_makeVehicle_0 (X : Nat × (Nat → Int32)) (C : sm_C) (i0 : Nat) (x1 : Int32) (s : sm_S) : sm_go (sm_ZZ X) sm_PP true C 159 0 [vP (20, i0), vI x1] [] s =
  sm_bI (C 157 [vP (20, i0)] s) sm_tw fun y1 s2 =>
  if y1 = 0 then
   (some (some (some (vI 0)), s2))
  else
   (sm_bV (C 147 [vP (19, (s2.2.2.2.2.1 19)), vI x1, vI ((sN s2 19 8 0).1 20 i0 2)] (sN s2 19 8 0)) sm_tw fun s4 =>
   sm_ix (s2.1 20 i0 2) 300 fun z5 =>
   some (some (some (vI ((sI (sR s4 56 i0 z5 (19, (s2.2.2.2.2.1 19))) 20 i0 2 (((sR s4 56 i0 z5 (19, (s2.2.2.2.2.1 19))).1 20 i0 2) + 1)).1 20 i0 2))), (sI (sR s4 56 i0 z5 (19, (s2.2.2.2.2.1 19))) 20 i0 2 (((sR s4 56 i0 z5 (19, (s2.2.2.2.2.1 19))).1 20 i0 2) + 1)))) :=
  (sm_go_x (cd := cd_X10_makeVehicle) rfl h_X10_makeVehicle 400 0 _ _ _).trans rfl
theorem h_X10_makeRow : sm_chain 0 cd_X10_makeRow = true := by decide +kernel
set_option maxRecDepth 20000 in
theorem q_X10_makeRow_0 (X : Nat × (Nat → Int32)) (C : sm_C) (i0 : Nat) (x1 : Int32) (x2 : Int32) (s : sm_S) : sm_go (sm_ZZ X) sm_PP true C 160 0 [vP (20, i0), vI x1, vI x2] [] s =
  if x2 < 0 then
   (some (some (some (vI 0)), s))
  else
   (sm_bI (C 158 [vP (20, i0), vI x2] s) sm_tw fun y1 s2 =>
   if y1 = 0 then
    (some (some (some (vI 0)), s2))
   else
    (sm_bV (C 120 [vP (16, (s2.2.2.2.2.1 16)), vI x1, vI ((sN s2 16 4 0).1 20 i0 3), vI x2] (sN s2 16 4 0)) sm_tw fun s4 =>
    sm_ix (s2.1 20 i0 3) 200 fun z5 =>
    some (some (some (vI (-((sI (sI (sR s4 57 i0 z5 (16, (s2.2.2.2.2.1 16))) 20 i0 3 (((sR s4 57 i0 z5 (16, (s2.2.2.2.2.1 16))).1 20 i0 3) + 1)) 20 i0 4 (((sI (sR s4 57 i0 z5 (16, (s2.2.2.2.2.1 16))) 20 i0 3 (((sR s4 57 i0 z5 (16, (s2.2.2.2.2.1 16))).1 20 i0 3) + 1)).1 20 i0 4) + x2)).1 20 i0 3)))), (sI (sI (sR s4 57 i0 z5 (16, (s2.2.2.2.2.1 16))) 20 i0 3 (((sR s4 57 i0 z5 (16, (s2.2.2.2.2.1 16))).1 20 i0 3) + 1)) 20 i0 4 (((sI (sR s4 57 i0 z5 (16, (s2.2.2.2.2.1 16))) 20 i0 3 (((sR s4 57 i0 z5 (16, (s2.2.2.2.2.1 16))).1 20 i0 3) + 1)).1 20 i0 4) + x2))))) :=
  (sm_go_x (cd := cd_X10_makeRow) rfl h_X10_makeRow 400 0 _ _ _).trans rfl
theorem h_X10_vehicleOf : sm_chain 0 cd_X10_vehicleOf = true := by decide +kernel
set_option maxRecDepth 20000 in
theorem q_X10_vehicleOf_0 (X : Nat × (Nat → Int32)) (C : sm_C) (i0 : Nat) (x1 : Int32) (s : sm_S) : sm_go (sm_ZZ X) sm_PP true C 161 0 [vP (20, i0), vI x1] [] s =
  if 0 < x1 then
   (if (s.1 20 i0 2) < x1 then
    (some (some (some (vP (0, 0))), s))
   else
    (sm_ix (x1 - 1) 300 fun z1 =>
    some (some (some (vP (s.2.2.1 56 i0 z1))), s)))
  else
   (some (some (some (vP (0, 0))), s)) :=
  (sm_go_x (cd := cd_X10_vehicleOf) rfl h_X10_vehicleOf 400 0 _ _ _).trans rfl
theorem h_X10_rowOf : sm_chain 0 cd_X10_rowOf = true := by decide +kernel
set_option maxRecDepth 20000 in
theorem q_X10_rowOf_0 (X : Nat × (Nat → Int32)) (C : sm_C) (i0 : Nat) (x1 : Int32) (s : sm_S) : sm_go (sm_ZZ X) sm_PP true C 162 0 [vP (20, i0), vI x1] [] s =
  if x1 < 0 then
   (if x1 < (-(s.1 20 i0 3)) then
    (some (some (some (vP (0, 0))), s))
   else
    (sm_ix ((-x1) - 1) 200 fun z1 =>
    some (some (some (vP (s.2.2.1 57 i0 z1))), s)))
  else
   (some (some (some (vP (0, 0))), s)) :=
  (sm_go_x (cd := cd_X10_rowOf) rfl h_X10_rowOf 400 0 _ _ _).trans rfl
theorem h_X10_referenceToVehicle : sm_chain 0 cd_X10_referenceToVehicle = true := by decide +kernel
set_option maxRecDepth 20000 in
theorem q_X10_referenceToVehicle_0 (X : Nat × (Nat → Int32)) (C : sm_C) (q0 : Nat × Nat) (s : sm_S) : sm_go (sm_ZZ X) sm_PP true C 163 0 [vP q0] [] s =
  if q0.1 = 0 then
   (some (some (some (vI 0)), s))
  else
   (sm_rq q0 19 fun j1 =>
   some (some (some (vI ((s.1 19 j1 1) + 1))), s)) :=
  (sm_go_x (cd := cd_X10_referenceToVehicle) rfl h_X10_referenceToVehicle 400 0 _ _ _).trans rfl
theorem h_X10_referenceToRow : sm_chain 0 cd_X10_referenceToRow = true := by decide +kernel
set_option maxRecDepth 20000 in
theorem q_X10_referenceToRow_0 (X : Nat × (Nat → Int32)) (C : sm_C) (q0 : Nat × Nat) (s : sm_S) : sm_go (sm_ZZ X) sm_PP true C 164 0 [vP q0] [] s =
  if q0.1 = 0 then
   (some (some (some (vI 0)), s))
  else
   (sm_rq q0 16 fun j1 =>
   some (some (some (vI ((-1) - (s.1 16 j1 1)))), s)) :=
  (sm_go_x (cd := cd_X10_referenceToRow) rfl h_X10_referenceToRow 400 0 _ _ _).trans rfl
theorem h_X10_typeOf : sm_chain 0 cd_X10_typeOf = true := by decide +kernel
set_option maxRecDepth 20000 in
theorem q_X10_typeOf_0 (X : Nat × (Nat → Int32)) (C : sm_C) (i0 : Nat) (x1 : Int32) (s : sm_S) : sm_go (sm_ZZ X) sm_PP true C 165 0 [vP (20, i0), vI x1, vU, vU] [] s =
  sm_bP (C 162 [vP (20, i0), vI x1] s) sm_tw fun y1 s2 =>
  if y1.1 = 0 then
   (sm_bP (C 161 [vP (20, i0), vI x1] s2) sm_tw fun y3 s4 =>
   if y3.1 = 0 then
    (some (some (some (vI (-1))), s4))
   else
    (sm_rq y3 19 fun j5 =>
    some (some (some (vI (s4.1 19 j5 0))), s4)))
  else
   (sm_rq y1 16 fun j6 =>
   some (some (some (vI (18 + (s2.1 16 j6 0)))), s2)) :=
  (sm_go_x (cd := cd_X10_typeOf) rfl h_X10_typeOf 400 0 _ _ _).trans rfl
theorem h_X11_feed : sm_chain 0 cd_X11_feed = true := by decide +kernel
set_option maxRecDepth 20000 in
theorem q_X11_feed_0 (X : Nat × (Nat → Int32)) (C : sm_C) (i0 : Nat) (x1 : Int32) (x2 : Int32) (x3 : Int32) (x4 : Int32) (x5 : Int32) (s : sm_S) : sm_go (sm_ZZ X) sm_PP true C 167 0 [vP (21, i0), vI x1, vI x2, vI x3, vI x4, vI x5] [] s =
  sm_bI (C 130 [vP (17, i0)] s) sm_tw fun y1 s2 =>
  if y1 = 0 then
   (some (some (some (vI (-1))), s2))
  else
   (sm_bV (C 131 [vP (17, i0), vI x1] s2) sm_tw fun s4 =>
   sm_bV (C 131 [vP (17, i0), vI x2] s4) sm_tw fun s6 =>
   sm_bV (C 131 [vP (17, i0), vI x3] s6) sm_tw fun s8 =>
   sm_bV (C 131 [vP (17, i0), vI x4] s8) sm_tw fun s10 =>
   sm_bV (C 131 [vP (17, i0), vI x5] s10) sm_tw fun s12 =>
   some (some (some (vI (s12.1 17 i0 1))), s12)) :=
  (sm_go_x (cd := cd_X11_feed) rfl h_X11_feed 400 0 _ _ _).trans rfl
theorem h_X11_load : sm_chain 0 cd_X11_load = true := by decide +kernel
set_option maxRecDepth 20000 in
theorem q_X11_load_0 (X : Nat × (Nat → Int32)) (C : sm_C) (i0 : Nat) (x1 : Int32) (s : sm_S) : sm_go (sm_ZZ X) sm_PP true C 168 0 [vP (21, i0), vI x1, vU] [] s =
  if x1 < 0 then
   (some (some (some (vI (-1))), s))
  else
   (if (s.1 17 i0 1) < x1 then
    (some (some (some (vI (-1))), s))
   else
    (sm_bV (C 132 [vP (17, i0), vI x1] s) sm_tw fun s2 =>
    sm_bV (C 82 [vP (15, i0), vP ((sI s2 17 i0 1 0).2.2.1 21 i0 6)] (sI s2 17 i0 1 0)) sm_tw fun s4 =>
    if (s4.1 15 i0 11) = 0 then
     (if ((sR (sR s4 21 i0 6 (s4.2.2.1 21 i0 5)) 21 i0 5 (s4.2.2.1 21 i0 6)).2.2.1 21 i0 5).1 = 10 then
      (sm_bI (C 2 [vP ((sR (sR s4 21 i0 6 (s4.2.2.1 21 i0 5)) 21 i0 5 (s4.2.2.1 21 i0 6)).2.2.1 21 i0 5)] (sR (sR s4 21 i0 6 (s4.2.2.1 21 i0 5)) 21 i0 5 (s4.2.2.1 21 i0 6))) sm_tw fun y5 s6 =>
     some (some (some (vI y5)), s6))
     else none)
    else
     (some (some (some (vI 0)), s4)))) :=
  (sm_go_x (cd := cd_X11_load) rfl h_X11_load 400 0 _ _ _).trans rfl
theorem h_X11_fault : sm_chain 0 cd_X11_fault = true := by decide +kernel
set_option maxRecDepth 20000 in
theorem q_X11_fault_0 (X : Nat × (Nat → Int32)) (C : sm_C) (i0 : Nat) (x1 : Int32) (s : sm_S) : sm_go (sm_ZZ X) sm_PP true C 169 0 [vP (21, i0), vI x1] [] s =
  if x1 = 0 then
   (some (some (some (vI (s.1 15 i0 11))), s))
  else
   (if x1 = 1 then
    (some (some (some (vI (s.1 15 i0 12))), s))
   else
    (some (some (some (vI (-1))), s))) :=
  (sm_go_x (cd := cd_X11_fault) rfl h_X11_fault 400 0 _ _ _).trans rfl
theorem h_X11_run : sm_chain 0 cd_X11_run = true := by decide +kernel
set_option maxRecDepth 20000 in
theorem q_X11_run_0 (X : Nat × (Nat → Int32)) (C : sm_C) (i0 : Nat) (x1 : Int32) (x2 : Int32) (x3 : Int32) (x4 : Int32) (s : sm_S) : sm_go (sm_ZZ X) sm_PP true C 170 0 [vP (21, i0), vI x1, vI x2, vI x3, vI x4, vU] [] s =
  if x1 < 0 then
   (some (some (some (vI (-1))), s))
  else
   (if (s.2.2.1 21 i0 5).1 = 10 then
    (sm_bI (C 2 [vP (s.2.2.1 21 i0 5)] s) sm_tw fun y1 s2 =>
   if x1 < y1 then
    (if x4 < 0 then
     (some (some (some (vI (-1))), s2))
    else
     (if 2000 < x4 then
      (some (some (some (vI (-1))), s2))
     else
      (if (s2.2.2.1 21 i0 5).1 = 10 then
       (sm_bI (C 12 [vP (s2.2.2.1 21 i0 5), vI (5 + x1)] s2) sm_tw fun y3 s4 =>
      if y3 = 0 then
       (some (some (some (vI (-1))), s4))
      else
       (sm_bI (C 42 [vP (13, i0), vP (s4.2.2.1 21 i0 5), vI (5 + x1), vI x2, vI x3, vI x4] s4) sm_tw fun y5 s6 =>
       some (some (some (vI y5)), s6)))
      else none)))
   else
    (some (some (some (vI (-1))), s2)))
   else none) :=
  (sm_go_x (cd := cd_X11_run) rfl h_X11_run 400 0 _ _ _).trans rfl
theorem h_X11_told : sm_chain 0 cd_X11_told = true := by decide +kernel
set_option maxRecDepth 20000 in
theorem q_X11_told_0 (X : Nat × (Nat → Int32)) (C : sm_C) (i0 : Nat) (x1 : Int32) (s : sm_S) : sm_go (sm_ZZ X) sm_PP true C 171 0 [vP (21, i0), vI x1] [] s =
  sm_bI (C 44 [vP (13, i0), vI x1] s) sm_tw fun y1 s2 =>
  some (some (some (vI y1)), s2) :=
  (sm_go_x (cd := cd_X11_told) rfl h_X11_told 400 0 _ _ _).trans rfl
theorem h_X11_said : sm_chain 0 cd_X11_said = true := by decide +kernel
set_option maxRecDepth 20000 in
theorem q_X11_said_0 (X : Nat × (Nat → Int32)) (C : sm_C) (i0 : Nat) (x1 : Int32) (s : sm_S) : sm_go (sm_ZZ X) sm_PP true C 172 0 [vP (21, i0), vI x1] [] s =
  if x1 < 0 then
   (some (some (some (vI 0)), s))
  else
   (if x1 < (s.1 13 i0 16) then
    (sm_ix x1 300 fun z1 =>
    some (some (some (vI (s.1 46 i0 z1))), s))
   else
    (some (some (some (vI 0)), s))) :=
  (sm_go_x (cd := cd_X11_said) rfl h_X11_said 400 0 _ _ _).trans rfl
theorem h_X11_state : sm_chain 0 cd_X11_state = true := by decide +kernel
set_option maxRecDepth 20000 in
theorem q_X11_state_0 (X : Nat × (Nat → Int32)) (C : sm_C) (i0 : Nat) (x1 : Int32) (x2 : Int32) (s : sm_S) : sm_go (sm_ZZ X) sm_PP true C 173 0 [vP (21, i0), vI x1, vI x2] [] s =
  sm_bI (C 32 [vP (12, i0), vI x1, vI x2] s) sm_tw fun y1 s2 =>
  sm_rt 1 y1 s2 :=
  (sm_go_x (cd := cd_X11_state) rfl h_X11_state 400 0 _ _ _).trans rfl
theorem h_X11_tick : sm_chain 0 cd_X11_tick = true := by decide +kernel
set_option maxRecDepth 20000 in
theorem q_X11_tick_0 (X : Nat × (Nat → Int32)) (C : sm_C) (i0 : Nat) (x1 : Int32) (s : sm_S) : sm_go (sm_ZZ X) sm_PP true C 174 0 [vP (21, i0), vI x1] [] s =
  if x1 < 0 then
   (some (some (some (vI (-1))), s))
  else
   (if 200 < x1 then
    (some (some (some (vI (-1))), s))
   else
    (sm_bI (C 36 [vP (12, i0), vI x1] s) sm_tw fun y1 s2 =>
    some (some (some (vI y1)), s2))) :=
  (sm_go_x (cd := cd_X11_tick) rfl h_X11_tick 400 0 _ _ _).trans rfl
theorem h_X11_vehicle : sm_chain 0 cd_X11_vehicle = true := by decide +kernel
set_option maxRecDepth 20000 in
theorem q_X11_vehicle_0 (X : Nat × (Nat → Int32)) (C : sm_C) (i0 : Nat) (x1 : Int32) (x2 : Int32) (s : sm_S) : sm_go (sm_ZZ X) sm_PP true C 175 0 [vP (21, i0), vI x1, vI x2, vU] [] s =
  if x1 < 0 then
   (sm_go (sm_ZZ X) sm_PP true C 175 28 [vP (21, i0), vI x1, vI x2, vU] [vP (0, 0)] s)
  else
   (if x1 < (s.1 20 i0 2) then
    (sm_ix x1 300 fun z1 =>
    sm_go (sm_ZZ X) sm_PP true C 175 28 [vP (21, i0), vI x1, vI x2, vU] [vP (s.2.2.1 56 i0 z1)] s)
   else
    (sm_go (sm_ZZ X) sm_PP true C 175 28 [vP (21, i0), vI x1, vI x2, vU] [vP (0, 0)] s)) :=
  (sm_go_x (cd := cd_X11_vehicle) rfl h_X11_vehicle 400 0 _ _ _).trans rfl
set_option maxRecDepth 20000 in
theorem q_X11_vehicle_28 (X : Nat × (Nat → Int32)) (C : sm_C) (d0 : sm_V) (d1 : sm_V) (x2 : Int32) (d3 : sm_V) (q100 : Nat × Nat) (s : sm_S) : sm_go (sm_ZZ X) sm_PP true C 175 28 [d0, d1, vI x2, d3] [vP q100] s =
  if q100.1 = 0 then
   (some (some (some (vI (-1))), s))
  else
   (if q100.1 = 19 then
    (sm_bI (C 151 [vP q100, vI x2] s) sm_tw fun y1 s2 =>
   some (some (some (vI y1)), s2))
   else none) :=
  (sm_go_x (cd := cd_X11_vehicle) rfl h_X11_vehicle 400 28 _ _ _).trans rfl
theorem h_X11_track : sm_chain 0 cd_X11_track = true := by decide +kernel
set_option maxRecDepth 20000 in
theorem q_X11_track_0 (X : Nat × (Nat → Int32)) (C : sm_C) (i0 : Nat) (x1 : Int32) (x2 : Int32) (s : sm_S) : sm_go (sm_ZZ X) sm_PP true C 176 0 [vP (21, i0), vI x1, vI x2] [] s =
  sm_bI (C 38 [vP (12, i0), vI x1, vI x2] s) sm_tw fun y1 s2 =>
  some (some (some (vI y1)), s2) :=
  (sm_go_x (cd := cd_X11_track) rfl h_X11_track 400 0 _ _ _).trans rfl
theorem h_X11_place : sm_chain 0 cd_X11_place = true := by decide +kernel
set_option maxRecDepth 20000 in
theorem q_X11_place_0 (X : Nat × (Nat → Int32)) (C : sm_C) (i0 : Nat) (x1 : Int32) (x2 : Int32) (s : sm_S) : sm_go (sm_ZZ X) sm_PP true C 177 0 [vP (21, i0), vI x1, vI x2, vU, vU] [] s =
  sm_bP (C 33 [vP (12, i0), vI x1] s) sm_tw fun y1 s2 =>
  if y1.1 = 0 then
   (some (some (some (vI (-1))), s2))
  else
   (if y1.1 = 16 then
    (sm_bP (C 122 [vP y1, vI x2] s2) sm_tw fun y3 s4 =>
   if y3.1 = 0 then
    (some (some (some (vI (-1))), s4))
   else
    (sm_rq y3 19 fun j5 =>
    some (some (some (vI (s4.1 19 j5 1))), s4)))
   else none) :=
  (sm_go_x (cd := cd_X11_place) rfl h_X11_place 400 0 _ _ _).trans rfl
end
