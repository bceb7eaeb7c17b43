section
theorem h_X13_reckons : sm_chain 0 cd_X13_reckons = true := by decide +kernel
set_option maxRecDepth 20000 in
theorem q_X13_reckons_0 (X : Nat × (Nat → Int32)) (C : sm_C) (i0 : Nat) (x1 : Int32) (s : sm_S) : sm_go (sm_ZZ X) sm_PP true C 262 0 [vP (23, i0), vI x1, vU, vU] [] s =
  sm_bI (C 254 [vP (23, i0)] s) sm_tw fun y1 s2 =>
  sm_bI (C 254 [vP (23, i0)] s2) sm_tw fun y3 s4 =>
  if x1 = 10 then
   (sm_bV (C 253 [vP (23, i0), vI (y3 + y1)] s4) sm_tw fun s6 =>
   some (some none, s6))
  else
   (if x1 = 11 then
    (sm_bV (C 253 [vP (23, i0), vI (y3 - y1)] s4) sm_tw fun s8 =>
    some (some none, s8))
   else
    (if x1 = 12 then
     (sm_bV (C 253 [vP (23, i0), vI (y3 * y1)] s4) sm_tw fun s10 =>
     some (some none, s10))
    else
     (if x1 = 13 then
      (if y3 = y1 then
       (sm_bV (C 253 [vP (23, i0), vI 1] s4) sm_tw fun s12 =>
       some (some none, s12))
      else
       (sm_bV (C 253 [vP (23, i0), vI 0] s4) sm_tw fun s14 =>
       some (some none, s14)))
     else
      (if x1 = 14 then
       (if y3 = y1 then
        (sm_bV (C 253 [vP (23, i0), vI 0] s4) sm_tw fun s16 =>
        some (some none, s16))
       else
        (sm_bV (C 253 [vP (23, i0), vI 1] s4) sm_tw fun s18 =>
        some (some none, s18)))
      else
       (if y3 < y1 then
        (sm_bV (C 253 [vP (23, i0), vI 1] s4) sm_tw fun s20 =>
        some (some none, s20))
       else
        (sm_bV (C 253 [vP (23, i0), vI 0] s4) sm_tw fun s22 =>
        some (some none, s22))))))) :=
  (sm_go_x (cd := cd_X13_reckons) rfl h_X13_reckons 400 0 _ _ _).trans rfl
theorem h_X13_says : sm_chain 0 cd_X13_says = true := by decide +kernel
set_option maxRecDepth 20000 in
theorem q_X13_says_0 (X : Nat × (Nat → Int32)) (C : sm_C) (i0 : Nat) (x1 : Int32) (s : sm_S) : sm_go (sm_ZZ X) sm_PP true C 263 0 [vP (23, i0), vI x1] [] s =
  if (s.1 23 i0 28) = 300 then
   (some (some none, s))
  else
   (sm_ix (s.1 23 i0 28) 300 fun z1 =>
   some (some none, (sI (sI s 80 i0 z1 x1) 23 i0 28 (((sI s 80 i0 z1 x1).1 23 i0 28) + 1)))) :=
  (sm_go_x (cd := cd_X13_says) rfl h_X13_says 400 0 _ _ _).trans rfl
theorem h_X13_element0 : sm_chain 0 cd_X13_element0 = true := by decide +kernel
set_option maxRecDepth 20000 in
theorem q_X13_element0_0 (X : Nat × (Nat → Int32)) (C : sm_C) (i0 : Nat) (x1 : Int32) (s : sm_S) : sm_go (sm_ZZ X) sm_PP true C 264 0 [vP (23, i0), vI x1, vU, vU] [] s =
  sm_bI (C 254 [vP (23, i0)] s) sm_tw fun y1 s2 =>
  sm_bI (C 254 [vP (23, i0)] s2) sm_tw fun y3 s4 =>
  if y3 = 0 then
   (sm_bV (C 256 [vP (23, i0), vI 1, vI 0, vI x1] s4) sm_tw fun s6 =>
   some (some none, s6))
  else
   (if y1 < 0 then
    (sm_bV (C 256 [vP (23, i0), vI 2, vI 0, vI x1] s4) sm_tw fun s8 =>
    some (some none, s8))
   else
    (sm_ix (y3 - 1001) 200 fun z9 =>
    if y1 < (s4.1 78 i0 z9) then
     (sm_ix (y3 - 1001) 200 fun z10 =>
     sm_ix ((s4.1 77 i0 z10) + y1) 2000 fun z11 =>
     sm_bV (C 253 [vP (23, i0), vI (s4.1 79 i0 z11)] s4) sm_tw fun s13 =>
     some (some none, s13))
    else
     (sm_bV (C 256 [vP (23, i0), vI 2, vI 0, vI x1] s4) sm_tw fun s15 =>
     some (some none, s15)))) :=
  (sm_go_x (cd := cd_X13_element0) rfl h_X13_element0 400 0 _ _ _).trans rfl
theorem h_X13_puts : sm_chain 0 cd_X13_puts = true := by decide +kernel
set_option maxRecDepth 20000 in
theorem q_X13_puts_0 (X : Nat × (Nat → Int32)) (C : sm_C) (i0 : Nat) (x1 : Int32) (s : sm_S) : sm_go (sm_ZZ X) sm_PP true C 265 0 [vP (23, i0), vI x1, vU, vU, vU] [] s =
  sm_bI (C 254 [vP (23, i0)] s) sm_tw fun y1 s2 =>
  sm_bI (C 254 [vP (23, i0)] s2) sm_tw fun y3 s4 =>
  sm_bI (C 254 [vP (23, i0)] s4) sm_tw fun y5 s6 =>
  if y5 = 0 then
   (sm_bV (C 256 [vP (23, i0), vI 1, vI 0, vI x1] s6) sm_tw fun s8 =>
   some (some none, s8))
  else
   (if y3 < 0 then
    (sm_bV (C 256 [vP (23, i0), vI 2, vI 0, vI x1] s6) sm_tw fun s10 =>
    some (some none, s10))
   else
    (sm_ix (y5 - 1001) 200 fun z11 =>
    if y3 < (s6.1 78 i0 z11) then
     (if y1 = 0 then
      (sm_go (sm_ZZ X) sm_PP true C 265 93 [vP (23, i0), vI x1, vI y1, vI y3, vI y5] [] s6)
     else
      (sm_ix (y5 - 1001) 200 fun z12 =>
      sm_bI (C 248 [vP (23, i0), vI y1, vI (s6.1 76 i0 z12)] s6) sm_tw fun y13 s14 =>
      if y13 = 0 then
       (sm_bV (C 256 [vP (23, i0), vI 5, vI 0, vI x1] s14) sm_tw fun s16 =>
       some (some none, s16))
      else
       (sm_go (sm_ZZ X) sm_PP true C 265 93 [vP (23, i0), vI x1, vI y1, vI y3, vI y5] [] s14)))
    else
     (sm_bV (C 256 [vP (23, i0), vI 2, vI 0, vI x1] s6) sm_tw fun s18 =>
     some (some none, s18)))) :=
  (sm_go_x (cd := cd_X13_puts) rfl h_X13_puts 400 0 _ _ _).trans rfl
set_option maxRecDepth 20000 in
theorem q_X13_puts_93 (X : Nat × (Nat → Int32)) (C : sm_C) (i0 : Nat) (d1 : sm_V) (x2 : Int32) (x3 : Int32) (x4 : Int32) (s : sm_S) : sm_go (sm_ZZ X) sm_PP true C 265 93 [vP (23, i0), d1, vI x2, vI x3, vI x4] [] s =
  sm_ix (x4 - 1001) 200 fun z1 =>
  sm_ix ((s.1 77 i0 z1) + x3) 2000 fun z2 =>
  some (some none, (sI s 79 i0 z2 x2)) :=
  (sm_go_x (cd := cd_X13_puts) rfl h_X13_puts 400 93 _ _ _).trans rfl
theorem h_X13_make : sm_chain 0 cd_X13_make = true := by decide +kernel
set_option maxRecDepth 20000 in
theorem q_X13_make_0 (X : Nat × (Nat → Int32)) (C : sm_C) (i0 : Nat) (x1 : Int32) (x2 : Int32) (s : sm_S) : sm_go (sm_ZZ X) sm_PP true C 266 0 [vP (23, i0), vI x1, vI x2] [] s =
  if (s.1 23 i0 24) = 300 then
   (sm_bV (C 255 [vP (23, i0), vI 8, vI x2] s) sm_tw fun s2 =>
   some (some none, s2))
  else
   (sm_ix (s.1 23 i0 24) 300 fun z3 =>
   sm_bV (C 253 [vP (23, i0), vI ((sI (sI s 74 i0 z3 x1) 23 i0 24 (((sI s 74 i0 z3 x1).1 23 i0 24) + 1)).1 23 i0 24)] (sI (sI s 74 i0 z3 x1) 23 i0 24 (((sI s 74 i0 z3 x1).1 23 i0 24) + 1))) sm_tw fun s5 =>
   some (some none, s5)) :=
  (sm_go_x (cd := cd_X13_make) rfl h_X13_make 400 0 _ _ _).trans rfl
theorem h_X13_makeRow : sm_chain 0 cd_X13_makeRow = true := by decide +kernel
set_option maxRecDepth 20000 in
theorem q_X13_makeRow_0 (X : Nat × (Nat → Int32)) (C : sm_C) (i0 : Nat) (x1 : Int32) (x2 : Int32) (s : sm_S) : sm_go (sm_ZZ X) sm_PP true C 267 0 [vP (23, i0), vI x1, vI x2, vU] [] s =
  sm_bI (C 254 [vP (23, i0)] s) sm_tw fun y1 s2 =>
  if (s2.1 23 i0 25) = 200 then
   (sm_bV (C 255 [vP (23, i0), vI 8, vI x2] s2) sm_tw fun s4 =>
   some (some none, s4))
  else
   (if 40 < y1 then
    (sm_bV (C 255 [vP (23, i0), vI 8, vI x2] s2) sm_tw fun s6 =>
    some (some none, s6))
   else
    (if (2000 - (s2.1 23 i0 26)) < y1 then
     (sm_bV (C 255 [vP (23, i0), vI 8, vI x2] s2) sm_tw fun s8 =>
     some (some none, s8))
    else
     (if y1 < 0 then
      (sm_bV (C 256 [vP (23, i0), vI 3, vI 0, vI x2] s2) sm_tw fun s10 =>
      some (some none, s10))
     else
      (sm_ix (s2.1 23 i0 25) 200 fun z11 =>
      sm_ix ((sI s2 76 i0 z11 x1).1 23 i0 25) 200 fun z12 =>
      sm_ix ((sI (sI s2 76 i0 z11 x1) 77 i0 z12 ((sI s2 76 i0 z11 x1).1 23 i0 26)).1 23 i0 25) 200 fun z13 =>
      sm_bV (C 253 [vP (23, i0), vI (1001 + ((sI (sI (sI (sI s2 76 i0 z11 x1) 77 i0 z12 ((sI s2 76 i0 z11 x1).1 23 i0 26)) 78 i0 z13 y1) 23 i0 26 (((sI (sI (sI s2 76 i0 z11 x1) 77 i0 z12 ((sI s2 76 i0 z11 x1).1 23 i0 26)) 78 i0 z13 y1).1 23 i0 26) + y1)).1 23 i0 25))] (sI (sI (sI (sI s2 76 i0 z11 x1) 77 i0 z12 ((sI s2 76 i0 z11 x1).1 23 i0 26)) 78 i0 z13 y1) 23 i0 26 (((sI (sI (sI s2 76 i0 z11 x1) 77 i0 z12 ((sI s2 76 i0 z11 x1).1 23 i0 26)) 78 i0 z13 y1).1 23 i0 26) + y1))) sm_tw fun s15 =>
      some (some none, (sI s15 23 i0 25 ((s15.1 23 i0 25) + 1))))))) :=
  (sm_go_x (cd := cd_X13_makeRow) rfl h_X13_makeRow 400 0 _ _ _).trans rfl
theorem h_X13_isTrack : sm_chain 0 cd_X13_isTrack = true := by decide +kernel
set_option maxRecDepth 20000 in
theorem q_X13_isTrack_0 (X : Nat × (Nat → Int32)) (C : sm_C) (x0 : Int32) (s : sm_S) : sm_go (sm_ZZ X) sm_PP true C 268 0 [vI x0] [] s =
  if x0 < 0 then
   (some (some (some (vI 0)), s))
  else
   (if x0 < 8 then
    (some (some (some (vI 1)), s))
   else
    (some (some (some (vI 0)), s))) :=
  (sm_go_x (cd := cd_X13_isTrack) rfl h_X13_isTrack 400 0 _ _ _).trans rfl
theorem h_X13_takes : sm_chain 0 cd_X13_takes = true := by decide +kernel
set_option maxRecDepth 20000 in
theorem q_X13_takes_0 (X : Nat × (Nat → Int32)) (C : sm_C) (i0 : Nat) (x1 : Int32) (x2 : Int32) (s : sm_S) : sm_go (sm_ZZ X) sm_PP true C 269 0 [vP (23, i0), vI x1, vI x2] [] s =
  sm_ix x1 8 fun z1 =>
  sm_bI (C 248 [vP (23, i0), vI x2, vI (18 + (s.1 90 i0 z1))] s) sm_tw fun y2 s3 =>
  sm_rt 1 y2 s3 :=
  (sm_go_x (cd := cd_X13_takes) rfl h_X13_takes 400 0 _ _ _).trans rfl
theorem h_X13_five_ : sm_chain 0 cd_X13_five_ = true := by decide +kernel
set_option maxRecDepth 20000 in
theorem q_X13_five__0 (X : Nat × (Nat → Int32)) (C : sm_C) (i0 : Nat) (x1 : Int32) (x2 : Int32) (s : sm_S) : sm_go (sm_ZZ X) sm_PP true C 270 0 [vP (23, i0), vI x1, vI x2, vU, vU, vU] [] s =
  if (x1 - 12) = 0 then
   (sm_bI (C 254 [vP (23, i0)] s) sm_tw fun y1 s2 =>
   sm_bI (C 268 [vI y1] s2) sm_tw fun y3 s4 =>
   if y3 = 0 then
    (sm_bV (C 253 [vP (23, i0), vI 0] s4) sm_tw fun s6 =>
    some (some none, s6))
   else
    (sm_ix y1 8 fun z7 =>
    sm_bV (C 253 [vP (23, i0), vI (s4.1 91 i0 z7)] s4) sm_tw fun s9 =>
    some (some none, s9)))
  else if (x1 - 12) = 1 then
   (sm_bI (C 254 [vP (23, i0)] s) sm_tw fun y10 s11 =>
   sm_bI (C 254 [vP (23, i0)] s11) sm_tw fun y12 s13 =>
   sm_bI (C 268 [vI y12] s13) sm_tw fun y14 s15 =>
   if y14 = 0 then
    (sm_go (sm_ZZ X) sm_PP true C 270 103 [vP (23, i0), vI x1, vI x2, vI y10, vI y12, vU] [vI 0] s15)
   else
    (if y10 = 0 then
     (sm_go (sm_ZZ X) sm_PP true C 270 103 [vP (23, i0), vI x1, vI x2, vI y10, vI y12, vU] [vI 1] s15)
    else
     (sm_bI (C 269 [vP (23, i0), vI y12, vI y10] s15) sm_tw fun y16 s17 =>
     if y16 = 0 then
      (sm_go (sm_ZZ X) sm_PP true C 270 103 [vP (23, i0), vI x1, vI x2, vI y10, vI y12, vU] [vI 0] s17)
     else
      (sm_go (sm_ZZ X) sm_PP true C 270 103 [vP (23, i0), vI x1, vI x2, vI y10, vI y12, vU] [vI 1] s17))))
  else if (x1 - 12) = 2 then
   (sm_bI (C 254 [vP (23, i0)] s) sm_tw fun y18 s19 =>
   sm_bI (C 254 [vP (23, i0)] s19) sm_tw fun y20 s21 =>
   if y20 = 0 then
    (sm_bV (C 256 [vP (23, i0), vI 1, vI 0, vI x2] s21) sm_tw fun s23 =>
    some (some none, s23))
   else
    (if y18 = 0 then
     (sm_bV (C 256 [vP (23, i0), vI 1, vI 0, vI x2] s21) sm_tw fun s25 =>
     some (some none, s25))
    else
     (sm_bI (C 271 [vP (23, i0), vI (y20 - 1001), vI (y18 - 1001)] s21) sm_tw fun y26 s27 =>
     sm_bV (C 253 [vP (23, i0), vI y26] s27) sm_tw fun s29 =>
     some (some none, s29))))
  else if (x1 - 12) = 3 then
   (sm_bI (C 254 [vP (23, i0)] s) sm_tw fun y30 s31 =>
   sm_bI (C 254 [vP (23, i0)] s31) sm_tw fun y32 s33 =>
   sm_bI (C 254 [vP (23, i0)] s33) sm_tw fun y34 s35 =>
   if y34 = 0 then
    (sm_bV (C 256 [vP (23, i0), vI 1, vI 0, vI x2] s35) sm_tw fun s37 =>
    some (some none, s37))
   else
    (sm_bI (C 272 [vP (23, i0), vI y34, vI y32, vI y30] s35) sm_tw fun y38 s39 =>
    sm_bV (C 253 [vP (23, i0), vI y38] s39) sm_tw fun s41 =>
    some (some none, s41)))
  else (sm_bV (C 253 [vP (23, i0), vI (s.1 23 i0 61)] s) sm_tw fun s43 =>
   some (some none, s43)) :=
  (sm_go_x (cd := cd_X13_five_) rfl h_X13_five_ 400 0 _ _ _).trans rfl
set_option maxRecDepth 20000 in
theorem q_X13_five__103 (X : Nat × (Nat → Int32)) (C : sm_C) (i0 : Nat) (d1 : sm_V) (d2 : sm_V) (x3 : Int32) (x4 : Int32) (d5 : sm_V) (x100 : Int32) (s : sm_S) : sm_go (sm_ZZ X) sm_PP true C 270 103 [vP (23, i0), d1, d2, vI x3, vI x4, d5] [vI x100] s =
  if x100 = 0 then
   (sm_go (sm_ZZ X) sm_PP true C 270 118 [vP (23, i0), vU, vU, vI x3, vI x4, vI x100] [] s)
  else
   (sm_ix x4 8 fun z1 =>
   sm_go (sm_ZZ X) sm_PP true C 270 118 [vP (23, i0), vU, vU, vI x3, vI x4, vI x100] [] (sI s 91 i0 z1 x3)) :=
  (sm_go_x (cd := cd_X13_five_) rfl h_X13_five_ 400 103 _ _ _).trans rfl
set_option maxRecDepth 20000 in
theorem q_X13_five__118 (X : Nat × (Nat → Int32)) (C : sm_C) (i0 : Nat) (d1 : sm_V) (d2 : sm_V) (d3 : sm_V) (d4 : sm_V) (x5 : Int32) (s : sm_S) : sm_go (sm_ZZ X) sm_PP true C 270 118 [vP (23, i0), d1, d2, d3, d4, vI x5] [] s =
  if x5 = 0 then
   (sm_bV (C 253 [vP (23, i0), vI 0] s) sm_tw fun s2 =>
   some (some none, s2))
  else
   (sm_bV (C 253 [vP (23, i0), vI 1] s) sm_tw fun s4 =>
   some (some none, s4)) :=
  (sm_go_x (cd := cd_X13_five_) rfl h_X13_five_ 400 118 _ _ _).trans rfl
theorem h_X13_hump : sm_chain 0 cd_X13_hump = true := by decide +kernel
set_option maxRecDepth 20000 in
theorem q_X13_hump_0 (X : Nat × (Nat → Int32)) (C : sm_C) (i0 : Nat) (x1 : Int32) (x2 : Int32) (s : sm_S) : sm_go (sm_ZZ X) sm_PP true C 271 0 [vP (23, i0), vI x1, vI x2, vU, vU, vU, vU] [] s =
  sm_go (sm_ZZ X) sm_PP true C 271 5 [vP (23, i0), vI x1, vI x2, vI 0, vI 0, vU, vU] [] s :=
  (sm_go_x (cd := cd_X13_hump) rfl h_X13_hump 400 0 _ _ _).trans rfl
set_option maxRecDepth 20000 in
theorem q_X13_hump_5 (X : Nat × (Nat → Int32)) (C : sm_C) (i0 : Nat) (x1 : Int32) (x2 : Int32) (x3 : Int32) (x4 : Int32) (d5 : sm_V) (d6 : sm_V) (s : sm_S) : sm_go (sm_ZZ X) sm_PP true C 271 5 [vP (23, i0), vI x1, vI x2, vI x3, vI x4, d5, d6] [] s =
  sm_ix x1 200 fun z1 =>
  if x4 < (s.1 78 i0 z1) then
   (if x1 = x2 then
    (some (some (some (vI x3)), s))
   else
    (sm_ix x1 200 fun z2 =>
    sm_ix ((s.1 77 i0 z2) + x4) 2000 fun z3 =>
    sm_go (sm_ZZ X) sm_PP true C 271 40 [vP (23, i0), vI x1, vI x2, vI x3, vI x4, vI (s.1 79 i0 z3), vI 0] [] s))
  else
   (some (some (some (vI x3)), s)) :=
  (sm_go_x (cd := cd_X13_hump) rfl h_X13_hump 400 5 _ _ _).trans rfl
set_option maxRecDepth 20000 in
theorem q_X13_hump_40 (X : Nat × (Nat → Int32)) (C : sm_C) (i0 : Nat) (x1 : Int32) (x2 : Int32) (x3 : Int32) (x4 : Int32) (x5 : Int32) (x6 : Int32) (s : sm_S) : sm_go (sm_ZZ X) sm_PP true C 271 40 [vP (23, i0), vI x1, vI x2, vI x3, vI x4, vI x5, vI x6] [] s =
  sm_ix x2 200 fun z1 =>
  if x6 < (s.1 78 i0 z1) then
   (sm_ix x2 200 fun z2 =>
   sm_ix ((s.1 77 i0 z2) + x6) 2000 fun z3 =>
   if (s.1 79 i0 z3) = 0 then
    (sm_go (sm_ZZ X) sm_PP true C 271 74 [vP (23, i0), vI x1, vI x2, vI x3, vI x4, vI x5, vI x6] [] s)
   else
    (sm_go (sm_ZZ X) sm_PP true C 271 40 [vP (23, i0), vI x1, vI x2, vI x3, vI x4, vI x5, vI (x6 + 1)] [] s))
  else
   (sm_go (sm_ZZ X) sm_PP true C 271 74 [vP (23, i0), vI x1, vI x2, vI x3, vI x4, vI x5, vI x6] [] s) :=
  (sm_go_x (cd := cd_X13_hump) rfl h_X13_hump 400 40 _ _ _).trans rfl
set_option maxRecDepth 20000 in
theorem q_X13_hump_74 (X : Nat × (Nat → Int32)) (C : sm_C) (i0 : Nat) (x1 : Int32) (x2 : Int32) (x3 : Int32) (x4 : Int32) (x5 : Int32) (x6 : Int32) (s : sm_S) : sm_go (sm_ZZ X) sm_PP true C 271 74 [vP (23, i0), vI x1, vI x2, vI x3, vI x4, vI x5, vI x6] [] s =
  if x5 = 0 then
   (sm_go (sm_ZZ X) sm_PP true C 271 5 [vP (23, i0), vI x1, vI x2, vI x3, vI (x4 + 1), vI x5, vI x6] [] s)
  else
   (sm_ix x2 200 fun z1 =>
   if x6 = (s.1 78 i0 z1) then
    (sm_go (sm_ZZ X) sm_PP true C 271 5 [vP (23, i0), vI x1, vI x2, vI x3, vI (x4 + 1), vI x5, vI x6] [] s)
   else
    (sm_ix x2 200 fun z2 =>
    sm_bI (C 248 [vP (23, i0), vI x5, vI (s.1 76 i0 z2)] s) sm_tw fun y3 s4 =>
    if y3 = 0 then
     (sm_go (sm_ZZ X) sm_PP true C 271 5 [vP (23, i0), vI x1, vI x2, vI x3, vI (x4 + 1), vI x5, vI x6] [] s4)
    else
     (sm_ix x2 200 fun z5 =>
     sm_ix ((s4.1 77 i0 z5) + x6) 2000 fun z6 =>
     sm_ix x1 200 fun z7 =>
     sm_ix (((sI s4 79 i0 z6 x5).1 77 i0 z7) + x4) 2000 fun z8 =>
     sm_go (sm_ZZ X) sm_PP true C 271 5 [vP (23, i0), vI x1, vI x2, vI (x3 + 1), vI (x4 + 1), vI x5, vI x6] [] (sI (sI s4 79 i0 z6 x5) 79 i0 z8 0)))) :=
  (sm_go_x (cd := cd_X13_hump) rfl h_X13_hump 400 74 _ _ _).trans rfl
theorem h_X13_send : sm_chain 0 cd_X13_send = true := by decide +kernel
set_option maxRecDepth 20000 in
theorem q_X13_send_0 (X : Nat × (Nat → Int32)) (C : sm_C) (i0 : Nat) (x1 : Int32) (x2 : Int32) (x3 : Int32) (s : sm_S) : sm_go (sm_ZZ X) sm_PP true C 272 0 [vP (23, i0), vI x1, vI x2, vI x3] [] s =
  sm_bI (C 268 [vI x2] s) sm_tw fun y1 s2 =>
  if y1 = 0 then
   (some (some (some (vI (-1))), s2))
  else
   (if x3 < 1 then
    (some (some (some (vI (-1))), s2))
   else
    (if 1000 < x3 then
     (some (some (some (vI (-1))), s2))
    else
     (if (s2.1 23 i0 60) = 10 then
      (some (some (some (vI (-1))), s2))
     else
      (sm_ix (s2.1 23 i0 60) 10 fun z3 =>
      sm_ix ((sI s2 92 i0 z3 x1).1 23 i0 60) 10 fun z4 =>
      sm_ix ((sI (sI s2 92 i0 z3 x1) 93 i0 z4 x2).1 23 i0 60) 10 fun z5 =>
      sm_ix ((sI (sI (sI s2 92 i0 z3 x1) 93 i0 z4 x2) 94 i0 z5 x3).1 23 i0 60) 10 fun z6 =>
      sm_ix ((sI (sI (sI (sI s2 92 i0 z3 x1) 93 i0 z4 x2) 94 i0 z5 x3) 95 i0 z6 0).1 23 i0 60) 10 fun z7 =>
      some (some (some (vI (((sI (sI (sI (sI (sI (sI s2 92 i0 z3 x1) 93 i0 z4 x2) 94 i0 z5 x3) 95 i0 z6 0) 96 i0 z7 0) 23 i0 60 (((sI (sI (sI (sI (sI s2 92 i0 z3 x1) 93 i0 z4 x2) 94 i0 z5 x3) 95 i0 z6 0) 96 i0 z7 0).1 23 i0 60) + 1)).1 23 i0 60) - 1))), (sI (sI (sI (sI (sI (sI s2 92 i0 z3 x1) 93 i0 z4 x2) 94 i0 z5 x3) 95 i0 z6 0) 96 i0 z7 0) 23 i0 60 (((sI (sI (sI (sI (sI s2 92 i0 z3 x1) 93 i0 z4 x2) 94 i0 z5 x3) 95 i0 z6 0) 96 i0 z7 0).1 23 i0 60) + 1))))))) :=
  (sm_go_x (cd := cd_X13_send) rfl h_X13_send 400 0 _ _ _).trans rfl
theorem h_X13_massOf : sm_chain 0 cd_X13_massOf = true := by decide +kernel
set_option maxRecDepth 20000 in
theorem q_X13_massOf_0 (X : Nat × (Nat → Int32)) (C : sm_C) (i0 : Nat) (x1 : Int32) (s : sm_S) : sm_go (sm_ZZ X) sm_PP true C 273 0 [vP (23, i0), vI x1, vU, vU, vU] [] s =
  sm_go (sm_ZZ X) sm_PP true C 273 4 [vP (23, i0), vI x1, vI 0, vI 0, vU] [] s :=
  (sm_go_x (cd := cd_X13_massOf) rfl h_X13_massOf 400 0 _ _ _).trans rfl
set_option maxRecDepth 20000 in
theorem q_X13_massOf_4 (X : Nat × (Nat → Int32)) (C : sm_C) (i0 : Nat) (x1 : Int32) (x2 : Int32) (x3 : Int32) (d4 : sm_V) (s : sm_S) : sm_go (sm_ZZ X) sm_PP true C 273 4 [vP (23, i0), vI x1, vI x2, vI x3, d4] [] s =
  sm_ix x1 200 fun z1 =>
  if x3 < (s.1 78 i0 z1) then
   (sm_ix x1 200 fun z2 =>
   sm_ix ((s.1 77 i0 z2) + x3) 2000 fun z3 =>
   if (s.1 79 i0 z3) = 0 then
    (sm_go (sm_ZZ X) sm_PP true C 273 4 [vP (23, i0), vI x1, vI (x2 + 0), vI (x3 + 1), vI (s.1 79 i0 z3)] [] s)
   else
    (sm_bI (C 247 [vI (s.1 79 i0 z3)] s) sm_tw fun y4 s5 =>
    sm_bI (C 249 [vP (23, i0), vI y4] s5) sm_tw fun y6 s7 =>
    sm_go (sm_ZZ X) sm_PP true C 273 4 [vP (23, i0), vI x1, vI (x2 + y6), vI (x3 + 1), vI (s.1 79 i0 z3)] [] s7))
  else
   (some (some (some (vI x2)), s)) :=
  (sm_go_x (cd := cd_X13_massOf) rfl h_X13_massOf 400 4 _ _ _).trans rfl
theorem h_X13_speedOf : sm_chain 0 cd_X13_speedOf = true := by decide +kernel
set_option maxRecDepth 20000 in
theorem q_X13_speedOf_0 (X : Nat × (Nat → Int32)) (C : sm_C) (i0 : Nat) (x1 : Int32) (s : sm_S) : sm_go (sm_ZZ X) sm_PP true C 274 0 [vP (23, i0), vI x1, vU, vU, vU, vU, vU] [] s =
  sm_bI (C 273 [vP (23, i0), vI x1] s) sm_tw fun y1 s2 =>
  sm_go (sm_ZZ X) sm_PP true C 274 14 [vP (23, i0), vI x1, vI y1, vI 0, vI 0, vI 0, vU] [] s2 :=
  (sm_go_x (cd := cd_X13_speedOf) rfl h_X13_speedOf 400 0 _ _ _).trans rfl
set_option maxRecDepth 20000 in
theorem q_X13_speedOf_14 (X : Nat × (Nat → Int32)) (C : sm_C) (i0 : Nat) (x1 : Int32) (x2 : Int32) (x3 : Int32) (x4 : Int32) (x5 : Int32) (d6 : sm_V) (s : sm_S) : sm_go (sm_ZZ X) sm_PP true C 274 14 [vP (23, i0), vI x1, vI x2, vI x3, vI x4, vI x5, d6] [] s =
  sm_ix x1 200 fun z1 =>
  if x5 < (s.1 78 i0 z1) then
   (sm_ix x1 200 fun z2 =>
   sm_ix ((s.1 77 i0 z2) + x5) 2000 fun z3 =>
   if (s.1 79 i0 z3) = 0 then
    (sm_go (sm_ZZ X) sm_PP true C 274 60 [vP (23, i0), vI x1, vI x2, vI x3, vI x4, vI x5, vI (s.1 79 i0 z3)] [vI 0, vI x3] s)
   else
    (sm_bI (C 247 [vI (s.1 79 i0 z3)] s) sm_tw fun y4 s5 =>
    sm_bI (C 251 [vP (23, i0), vI y4] s5) sm_tw fun y6 s7 =>
    sm_go (sm_ZZ X) sm_PP true C 274 60 [vP (23, i0), vI x1, vI x2, vI x3, vI x4, vI x5, vI (s.1 79 i0 z3)] [vI y6, vI x3] s7))
  else
   (if x2 < 1 then
    (sm_go (sm_ZZ X) sm_PP true C 274 103 [vP (23, i0), vI x1, vI x2, vI x3, vI x4, vI x5, vU] [vI 0] s)
   else
    (if x2 = 0 then none else
    sm_go (sm_ZZ X) sm_PP true C 274 103 [vP (23, i0), vI x1, vI x2, vI x3, vI x4, vI x5, vU] [vI (x3 / x2)] s)) :=
  (sm_go_x (cd := cd_X13_speedOf) rfl h_X13_speedOf 400 14 _ _ _).trans rfl
set_option maxRecDepth 20000 in
theorem q_X13_speedOf_60 (X : Nat × (Nat → Int32)) (C : sm_C) (i0 : Nat) (x1 : Int32) (x2 : Int32) (d3 : sm_V) (x4 : Int32) (x5 : Int32) (x6 : Int32) (x100 : Int32) (x101 : Int32) (s : sm_S) : sm_go (sm_ZZ X) sm_PP true C 274 60 [vP (23, i0), vI x1, vI x2, d3, vI x4, vI x5, vI x6] [vI x101, vI x100] s =
  if x6 = 0 then
   (sm_go (sm_ZZ X) sm_PP true C 274 14 [vP (23, i0), vI x1, vI x2, vI (x100 + x101), vI (x4 + 0), vI (x5 + 1), vI x6] [] s)
  else
   (sm_bI (C 247 [vI x6] s) sm_tw fun y1 s2 =>
   sm_bI (C 250 [vP (23, i0), vI y1] s2) sm_tw fun y3 s4 =>
   sm_go (sm_ZZ X) sm_PP true C 274 14 [vP (23, i0), vI x1, vI x2, vI (x100 + x101), vI (x4 + y3), vI (x5 + 1), vI x6] [] s4) :=
  (sm_go_x (cd := cd_X13_speedOf) rfl h_X13_speedOf 400 60 _ _ _).trans rfl
set_option maxRecDepth 20000 in
theorem q_X13_speedOf_103 (X : Nat × (Nat → Int32)) (C : sm_C) (d0 : sm_V) (d1 : sm_V) (d2 : sm_V) (d3 : sm_V) (x4 : Int32) (d5 : sm_V) (d6 : sm_V) (x100 : Int32) (s : sm_S) : sm_go (sm_ZZ X) sm_PP true C 274 103 [d0, d1, d2, d3, vI x4, d5, d6] [vI x100] s =
  if ((x4 / 5) + 1) < x100 then
   (if ((x4 / 5) + 1) < 0 then
    (some (some (some (vI 0)), s))
   else
    (some (some (some (vI ((x4 / 5) + 1))), s)))
  else
   (if x100 < 0 then
    (some (some (some (vI 0)), s))
   else
    (some (some (some (vI x100)), s))) :=
  (sm_go_x (cd := cd_X13_speedOf) rfl h_X13_speedOf 400 103 _ _ _).trans rfl
theorem h_X13_burns : sm_chain 0 cd_X13_burns = true := by decide +kernel
set_option maxRecDepth 20000 in
theorem q_X13_burns_0 (X : Nat × (Nat → Int32)) (C : sm_C) (i0 : Nat) (x1 : Int32) (s : sm_S) : sm_go (sm_ZZ X) sm_PP true C 275 0 [vP (23, i0), vI x1, vU, vU, vU] [] s =
  sm_go (sm_ZZ X) sm_PP true C 275 2 [vP (23, i0), vI x1, vI 0, vU, vU] [] s :=
  (sm_go_x (cd := cd_X13_burns) rfl h_X13_burns 400 0 _ _ _).trans rfl
set_option maxRecDepth 20000 in
theorem q_X13_burns_2 (X : Nat × (Nat → Int32)) (C : sm_C) (i0 : Nat) (x1 : Int32) (x2 : Int32) (d3 : sm_V) (d4 : sm_V) (s : sm_S) : sm_go (sm_ZZ X) sm_PP true C 275 2 [vP (23, i0), vI x1, vI x2, d3, d4] [] s =
  sm_ix x1 200 fun z1 =>
  if x2 < (s.1 78 i0 z1) then
   (sm_ix x1 200 fun z2 =>
   sm_ix ((s.1 77 i0 z2) + x2) 2000 fun z3 =>
   if (s.1 79 i0 z3) = 0 then
    (sm_go (sm_ZZ X) sm_PP true C 275 2 [vP (23, i0), vI x1, vI (x2 + 1), vI (s.1 79 i0 z3), vU] [] s)
   else
    (sm_bI (C 247 [vI (s.1 79 i0 z3)] s) sm_tw fun y4 s5 =>
    sm_ix y4 300 fun z6 =>
    sm_bI (C 182 [vI (s5.1 74 i0 z6), vI 17] s5) sm_tw fun y7 s8 =>
    if y7 = 0 then
     (sm_go (sm_ZZ X) sm_PP true C 275 2 [vP (23, i0), vI x1, vI (x2 + 1), vI (s.1 79 i0 z3), vU] [] s8)
    else
     (sm_bI (C 247 [vI (s.1 79 i0 z3)] s8) sm_tw fun y9 s10 =>
     sm_ix ((9 * y9) + 8) 2700 fun z11 =>
     if 0 < (s10.1 75 i0 z11) then
      (sm_ix ((9 * y9) + 8) 2700 fun z12 =>
      sm_ix ((9 * y9) + 8) 2700 fun z13 =>
      sm_go (sm_ZZ X) sm_PP true C 275 2 [vP (23, i0), vI x1, vI (x2 + 1), vI (s.1 79 i0 z3), vI ((9 * y9) + 8)] [] (sI s10 75 i0 z13 ((s10.1 75 i0 z12) - 1)))
     else
      (sm_ix ((9 * y9) + 8) 2700 fun z14 =>
      sm_ix ((9 * y9) + 8) 2700 fun z15 =>
      sm_go (sm_ZZ X) sm_PP true C 275 2 [vP (23, i0), vI x1, vI (x2 + 1), vI (s.1 79 i0 z3), vI ((9 * y9) + 8)] [] (sI s10 75 i0 z15 (s10.1 75 i0 z14))))))
  else
   (some (some none, s)) :=
  (sm_go_x (cd := cd_X13_burns) rfl h_X13_burns 400 2 _ _ _).trans rfl
theorem h_X13_goes : sm_chain 0 cd_X13_goes = true := by decide +kernel
set_option maxRecDepth 20000 in
theorem q_X13_goes_0 (X : Nat × (Nat → Int32)) (C : sm_C) (i0 : Nat) (x1 : Int32) (s : sm_S) : sm_go (sm_ZZ X) sm_PP true C 276 0 [vP (23, i0), vI x1, vU, vU, vU] [] s =
  sm_ix x1 10 fun z1 =>
  sm_bI (C 274 [vP (23, i0), vI ((s.1 92 i0 z1) - 1001)] s) sm_tw fun y2 s3 =>
  sm_ix x1 10 fun z4 =>
  sm_ix x1 10 fun z5 =>
  sm_ix x1 10 fun z6 =>
  if 0 < y2 then
   (sm_bV (C 275 [vP (23, i0), vI ((s.1 92 i0 z1) - 1001)] (sI (sI s3 96 i0 z4 y2) 94 i0 z6 (((sI s3 96 i0 z4 y2).1 94 i0 z5) - y2))) sm_tw fun s8 =>
   sm_go (sm_ZZ X) sm_PP true C 276 43 [vP (23, i0), vI x1, vI ((s.1 92 i0 z1) - 1001), vI y2, vU] [] s8)
  else
   (sm_go (sm_ZZ X) sm_PP true C 276 43 [vP (23, i0), vI x1, vI ((s.1 92 i0 z1) - 1001), vI y2, vU] [] (sI (sI s3 96 i0 z4 y2) 94 i0 z6 (((sI s3 96 i0 z4 y2).1 94 i0 z5) - y2))) :=
  (sm_go_x (cd := cd_X13_goes) rfl h_X13_goes 400 0 _ _ _).trans rfl
set_option maxRecDepth 20000 in
theorem q_X13_goes_43 (X : Nat × (Nat → Int32)) (C : sm_C) (i0 : Nat) (x1 : Int32) (d2 : sm_V) (d3 : sm_V) (d4 : sm_V) (s : sm_S) : sm_go (sm_ZZ X) sm_PP true C 276 43 [vP (23, i0), vI x1, d2, d3, d4] [] s =
  sm_ix x1 10 fun z1 =>
  if 0 < (s.1 94 i0 z1) then
   (some (some (some (vI 0)), s))
  else
   (sm_ix x1 10 fun z2 =>
   sm_ix x1 10 fun z3 =>
   sm_ix x1 10 fun z4 =>
   sm_bI (C 269 [vP (23, i0), vI ((sI s 94 i0 z2 0).1 93 i0 z3), vI ((sI s 94 i0 z2 0).1 92 i0 z4)] (sI s 94 i0 z2 0)) sm_tw fun y5 s6 =>
   if y5 = 0 then
    (sm_go (sm_ZZ X) sm_PP true C 276 94 [vP (23, i0), vI x1, vU, vU, vI y5] [vI 2, vI x1, vP (95, i0)] s6)
   else
    (sm_go (sm_ZZ X) sm_PP true C 276 94 [vP (23, i0), vI x1, vU, vU, vI y5] [vI 1, vI x1, vP (95, i0)] s6)) :=
  (sm_go_x (cd := cd_X13_goes) rfl h_X13_goes 400 43 _ _ _).trans rfl
set_option maxRecDepth 20000 in
theorem q_X13_goes_94 (X : Nat × (Nat → Int32)) (C : sm_C) (i0 : Nat) (x1 : Int32) (d2 : sm_V) (d3 : sm_V) (x4 : Int32) (q100 : Nat × Nat) (x101 : Int32) (x102 : Int32) (s : sm_S) : sm_go (sm_ZZ X) sm_PP true C 276 94 [vP (23, i0), vI x1, d2, d3, vI x4] [vI x102, vI x101, vP q100] s =
  sm_rq q100 95 fun j1 =>
  sm_ix x101 10 fun z2 =>
  if x4 = 0 then
   (some (some (some (vI 1)), (sI s 95 j1 z2 x102)))
  else
   (sm_ix x1 10 fun z3 =>
   sm_ix x1 10 fun z4 =>
   sm_ix ((sI s 95 j1 z2 x102).1 93 i0 z3) 8 fun z5 =>
   some (some (some (vI 1)), (sI (sI s 95 j1 z2 x102) 91 i0 z5 ((sI s 95 j1 z2 x102).1 92 i0 z4)))) :=
  (sm_go_x (cd := cd_X13_goes) rfl h_X13_goes 400 94 _ _ _).trans rfl
theorem h_X13_comes : sm_chain 0 cd_X13_comes = true := by decide +kernel
set_option maxRecDepth 20000 in
theorem q_X13_comes_0 (X : Nat × (Nat → Int32)) (C : sm_C) (i0 : Nat) (x1 : Int32) (s : sm_S) : sm_go (sm_ZZ X) sm_PP true C 278 0 [vP (23, i0), vI x1, vU] [] s =
  sm_go (sm_ZZ X) sm_PP true C 278 3 [vP (23, i0), vI x1, vI 24] [] s :=
  (sm_go_x (cd := cd_X13_comes) rfl h_X13_comes 400 0 _ _ _).trans rfl
set_option maxRecDepth 20000 in
theorem q_X13_comes_3 (X : Nat × (Nat → Int32)) (C : sm_C) (i0 : Nat) (x1 : Int32) (x2 : Int32) (s : sm_S) : sm_go (sm_ZZ X) sm_PP true C 278 3 [vP (23, i0), vI x1, vI x2] [] s =
  if x2 < 0 then
   (some (some none, s))
  else
   (sm_ix (s.1 23 i0 1) 3000 fun z1 =>
   sm_go (sm_ZZ X) sm_PP true C 278 3 [vP (23, i0), vI x1, vI (x2 + (-8))] [] (sI (sI s 67 i0 z1 (Int8.toInt32 (Int32.toInt8 (Int8.toInt32 (Int32.toInt8 (x1 >>> (x2 &&& 31))))))) 23 i0 1 (((sI s 67 i0 z1 (Int8.toInt32 (Int32.toInt8 (Int8.toInt32 (Int32.toInt8 (x1 >>> (x2 &&& 31))))))).1 23 i0 1) + 1))) :=
  (sm_go_x (cd := cd_X13_comes) rfl h_X13_comes 400 3 _ _ _).trans rfl
theorem h_X13_feed : sm_chain 0 cd_X13_feed = true := by decide +kernel
set_option maxRecDepth 20000 in
theorem q_X13_feed_0 (X : Nat × (Nat → Int32)) (C : sm_C) (i0 : Nat) (x1 : Int32) (x2 : Int32) (x3 : Int32) (x4 : Int32) (x5 : Int32) (s : sm_S) : sm_go (sm_ZZ X) sm_PP true C 279 0 [vP (23, i0), vI x1, vI x2, vI x3, vI x4, vI x5] [] s =
  if 3000 < ((s.1 23 i0 1) + 20) then
   (some (some (some (vI (-1))), s))
  else
   (sm_bV (C 278 [vP (23, i0), vI x1] s) sm_tw fun s2 =>
   sm_bV (C 278 [vP (23, i0), vI x2] s2) sm_tw fun s4 =>
   sm_bV (C 278 [vP (23, i0), vI x3] s4) sm_tw fun s6 =>
   sm_bV (C 278 [vP (23, i0), vI x4] s6) sm_tw fun s8 =>
   sm_bV (C 278 [vP (23, i0), vI x5] s8) sm_tw fun s10 =>
   some (some (some (vI (s10.1 23 i0 1))), s10)) :=
  (sm_go_x (cd := cd_X13_feed) rfl h_X13_feed 400 0 _ _ _).trans rfl
theorem h_X13_load : sm_chain 0 cd_X13_load = true := by decide +kernel
set_option maxRecDepth 20000 in
theorem q_X13_load_0 (X : Nat × (Nat → Int32)) (C : sm_C) (i0 : Nat) (x1 : Int32) (s : sm_S) : sm_go (sm_ZZ X) sm_PP true C 280 0 [vP (23, i0), vI x1, vU] [] s =
  if x1 < 0 then
   (some (some (some (vI (-1))), s))
  else
   (if (s.1 23 i0 1) < x1 then
    (some (some (some (vI (-1))), s))
   else
    (sm_bV (C 196 [vP (23, i0), vI x1] s) sm_tw fun s2 =>
    sm_bV (C 208 [vP (23, i0)] (sI (sI (sI s2 23 i0 1 0) 23 i0 9 0) 23 i0 10 (-1))) (fun s5 => sm_go (sm_ZZ X) sm_PP true C 280 41 [vP (23, i0), vI x1, vU] [vP (24, 0)] s5) fun s4 =>
    sm_rq ((sR (sR s4 23 i0 6 (s4.2.2.1 23 i0 7)) 23 i0 7 (s4.2.2.1 23 i0 6)).2.2.1 23 i0 6) 22 fun j6 =>
    some (some (some (vI ((sR (sR s4 23 i0 6 (s4.2.2.1 23 i0 7)) 23 i0 7 (s4.2.2.1 23 i0 6)).1 22 j6 0))), (sR (sR s4 23 i0 6 (s4.2.2.1 23 i0 7)) 23 i0 7 (s4.2.2.1 23 i0 6))))) :=
  (sm_go_x (cd := cd_X13_load) rfl h_X13_load 400 0 _ _ _).trans rfl
set_option maxRecDepth 20000 in
theorem q_X13_load_41 (X : Nat × (Nat → Int32)) (C : sm_C) (d0 : sm_V) (d1 : sm_V) (d2 : sm_V) (q100 : Nat × Nat) (s : sm_S) : sm_go (sm_ZZ X) sm_PP true C 280 41 [d0, d1, d2] [vP q100] s =
  some (some (some (vI 0)), s) :=
  (sm_go_x (cd := cd_X13_load) rfl h_X13_load 400 41 _ _ _).trans rfl
theorem h_X13_fault_ : sm_chain 0 cd_X13_fault_ = true := by decide +kernel
set_option maxRecDepth 20000 in
theorem q_X13_fault__0 (X : Nat × (Nat → Int32)) (C : sm_C) (i0 : Nat) (x1 : Int32) (s : sm_S) : sm_go (sm_ZZ X) sm_PP true C 281 0 [vP (23, i0), vI x1] [] s =
  if x1 = 0 then
   (some (some (some (vI (s.1 23 i0 9))), s))
  else
   (if x1 = 1 then
    (some (some (some (vI (s.1 23 i0 10))), s))
   else
    (some (some (some (vI (-1))), s))) :=
  (sm_go_x (cd := cd_X13_fault_) rfl h_X13_fault_ 400 0 _ _ _).trans rfl
theorem h_X13_mayRun : sm_chain 0 cd_X13_mayRun = true := by decide +kernel
set_option maxRecDepth 20000 in
theorem q_X13_mayRun_0 (X : Nat × (Nat → Int32)) (C : sm_C) (i0 : Nat) (x1 : Int32) (s : sm_S) : sm_go (sm_ZZ X) sm_PP true C 282 0 [vP (23, i0), vI x1, vU] [] s =
  if x1 < 0 then
   (some (some (some (vI 0)), s))
  else
   (sm_rq (s.2.2.1 23 i0 6) 22 fun j1 =>
   if x1 < (s.1 22 j1 0) then
    (sm_rq (s.2.2.1 23 i0 6) 22 fun j2 =>
    sm_ix x1 12 fun z3 =>
    if 2 < (s.1 60 j2 z3) then
     (some (some (some (vI 0)), s))
    else
     (sm_go (sm_ZZ X) sm_PP true C 282 32 [vP (23, i0), vI x1, vI 0] [] s))
   else
    (some (some (some (vI 0)), s))) :=
  (sm_go_x (cd := cd_X13_mayRun) rfl h_X13_mayRun 400 0 _ _ _).trans rfl
set_option maxRecDepth 20000 in
theorem q_X13_mayRun_32 (X : Nat × (Nat → Int32)) (C : sm_C) (i0 : Nat) (x1 : Int32) (x2 : Int32) (s : sm_S) : sm_go (sm_ZZ X) sm_PP true C 282 32 [vP (23, i0), vI x1, vI x2] [] s =
  sm_rq (s.2.2.1 23 i0 6) 22 fun j1 =>
  sm_ix x1 12 fun z2 =>
  if x2 < (s.1 60 j1 z2) then
   (sm_rq (s.2.2.1 23 i0 6) 22 fun j3 =>
   sm_ix ((4 * x1) + x2) 48 fun z4 =>
   if (s.1 61 j3 z4) = 36 then
    (sm_go (sm_ZZ X) sm_PP true C 282 32 [vP (23, i0), vI x1, vI (x2 + 1)] [] s)
   else
    (some (some (some (vI 0)), s)))
  else
   (some (some (some (vI 1)), s)) :=
  (sm_go_x (cd := cd_X13_mayRun) rfl h_X13_mayRun 400 32 _ _ _).trans rfl
theorem h_X13_run : sm_chain 0 cd_X13_run = true := by decide +kernel
set_option maxRecDepth 20000 in
theorem q_X13_run_0 (X : Nat × (Nat → Int32)) (C : sm_C) (i0 : Nat) (x1 : Int32) (x2 : Int32) (x3 : Int32) (x4 : Int32) (s : sm_S) : sm_go (sm_ZZ X) sm_PP true C 283 0 [vP (23, i0), vI x1, vI x2, vI x3, vI x4, vU, vU] [] s =
  sm_bI (C 282 [vP (23, i0), vI x1] s) sm_tw fun y1 s2 =>
  if y1 = 0 then
   (some (some (some (vI (-1))), s2))
  else
   (if x4 < 0 then
    (some (some (some (vI (-1))), s2))
   else
    (if 2000 < x4 then
     (some (some (some (vI (-1))), s2))
    else
     (sm_ix 0 4000 fun z3 =>
     sm_ix 1 4000 fun z4 =>
     sm_rq ((sI (sI (sI (sI (sI (sI (sI (sI (sI (sI s2 23 i0 56 1) 23 i0 57 0) 23 i0 49 x4) 23 i0 51 0) 23 i0 52 0) 23 i0 53 (-1)) 23 i0 47 0) 23 i0 39 0) 81 i0 z3 x2) 81 i0 z4 x3).2.2.1 23 i0 6) 22 fun j5 =>
     sm_ix x1 12 fun z6 =>
     sm_bV (C 258 [vP (23, i0), vI x1, vI (-1)] (sI (sI (sI (sI (sI (sI (sI (sI (sI (sI (sI s2 23 i0 56 1) 23 i0 57 0) 23 i0 49 x4) 23 i0 51 0) 23 i0 52 0) 23 i0 53 (-1)) 23 i0 47 0) 23 i0 39 0) 81 i0 z3 x2) 81 i0 z4 x3) 23 i0 37 ((sI (sI (sI (sI (sI (sI (sI (sI (sI (sI s2 23 i0 56 1) 23 i0 57 0) 23 i0 49 x4) 23 i0 51 0) 23 i0 52 0) 23 i0 53 (-1)) 23 i0 47 0) 23 i0 39 0) 81 i0 z3 x2) 81 i0 z4 x3).1 60 j5 z6))) sm_tw fun s8 =>
     sm_bV (C 260 [vP (23, i0)] s8) sm_tw fun s10 =>
     if (s10.1 23 i0 50) = 0 then
      (sm_rq (s10.2.2.1 23 i0 6) 22 fun j11 =>
      sm_ix x1 12 fun z12 =>
      sm_go (sm_ZZ X) sm_PP true C 283 122 [vP (23, i0), vI x1, vI x2, vI x3, vI x4, vU, vU] [vI (s10.1 59 j11 z12)] s10)
     else
      (sm_go (sm_ZZ X) sm_PP true C 283 122 [vP (23, i0), vI x1, vI x2, vI x3, vI x4, vU, vU] [vI 38] s10)))) :=
  (sm_go_x (cd := cd_X13_run) rfl h_X13_run 400 0 _ _ _).trans rfl
set_option maxRecDepth 20000 in
theorem q_X13_run_122 (X : Nat × (Nat → Int32)) (C : sm_C) (i0 : Nat) (d1 : sm_V) (d2 : sm_V) (d3 : sm_V) (d4 : sm_V) (d5 : sm_V) (d6 : sm_V) (x100 : Int32) (s : sm_S) : sm_go (sm_ZZ X) sm_PP true C 283 122 [vP (23, i0), d1, d2, d3, d4, d5, d6] [vI x100] s =
  if x100 < 36 then
   (if (s.1 23 i0 51) = 0 then
    (sm_go (sm_ZZ X) sm_PP true C 283 143 [vP (23, i0), vU, vU, vU, vU, vI x100, vU] [vI 0] s)
   else
    (sm_go (sm_ZZ X) sm_PP true C 283 143 [vP (23, i0), vU, vU, vU, vU, vI x100, vU] [vI 1] s))
  else
   (sm_go (sm_ZZ X) sm_PP true C 283 143 [vP (23, i0), vU, vU, vU, vU, vI x100, vU] [vI 0] s) :=
  (sm_go_x (cd := cd_X13_run) rfl h_X13_run 400 122 _ _ _).trans rfl
set_option maxRecDepth 20000 in
theorem q_X13_run_143 (X : Nat × (Nat → Int32)) (C : sm_C) (i0 : Nat) (d1 : sm_V) (d2 : sm_V) (d3 : sm_V) (d4 : sm_V) (x5 : Int32) (d6 : sm_V) (x100 : Int32) (s : sm_S) : sm_go (sm_ZZ X) sm_PP true C 283 143 [vP (23, i0), d1, d2, d3, d4, vI x5, d6] [vI x100] s =
  if x100 = 0 then
   (sm_go (sm_ZZ X) sm_PP true C 283 163 [vP (23, i0), vU, vU, vU, vU, vI x5, vI x100] [vI (-1), vP (23, i0)] s)
  else
   (sm_bI (C 246 [vP (23, i0), vI (s.1 23 i0 51)] s) sm_tw fun y1 s2 =>
   sm_go (sm_ZZ X) sm_PP true C 283 163 [vP (23, i0), vU, vU, vU, vU, vI x5, vI x100] [vI y1, vP (23, i0)] s2) :=
  (sm_go_x (cd := cd_X13_run) rfl h_X13_run 400 143 _ _ _).trans rfl
set_option maxRecDepth 20000 in
theorem q_X13_run_163 (X : Nat × (Nat → Int32)) (C : sm_C) (i0 : Nat) (d1 : sm_V) (d2 : sm_V) (d3 : sm_V) (d4 : sm_V) (x5 : Int32) (x6 : Int32) (q100 : Nat × Nat) (x101 : Int32) (s : sm_S) : sm_go (sm_ZZ X) sm_PP true C 283 163 [vP (23, i0), d1, d2, d3, d4, vI x5, vI x6] [vI x101, vP q100] s =
  sm_rq q100 23 fun j1 =>
  if x6 = 0 then
   (sm_go (sm_ZZ X) sm_PP true C 283 209 [vP (23, i0), vU, vU, vU, vU, vI x5, vI x6] [vI (-1), vP (23, i0)] (sI s 23 j1 54 x101))
  else
   (if ((sI s 23 j1 54 x101).1 23 i0 51) < 1001 then
    (sm_bI (C 247 [vI ((sI s 23 j1 54 x101).1 23 i0 51)] (sI s 23 j1 54 x101)) sm_tw fun y2 s3 =>
    sm_go (sm_ZZ X) sm_PP true C 283 209 [vP (23, i0), vU, vU, vU, vU, vI x5, vI x6] [vI y2, vP (23, i0)] s3)
   else
    (sm_ix (((sI s 23 j1 54 x101).1 23 i0 51) - 1001) 200 fun z4 =>
    sm_go (sm_ZZ X) sm_PP true C 283 209 [vP (23, i0), vU, vU, vU, vU, vI x5, vI x6] [vI ((sI s 23 j1 54 x101).1 78 i0 z4), vP (23, i0)] (sI s 23 j1 54 x101))) :=
  (sm_go_x (cd := cd_X13_run) rfl h_X13_run 400 163 _ _ _).trans rfl
set_option maxRecDepth 20000 in
theorem q_X13_run_209 (X : Nat × (Nat → Int32)) (C : sm_C) (i0 : Nat) (d1 : sm_V) (d2 : sm_V) (d3 : sm_V) (d4 : sm_V) (x5 : Int32) (d6 : sm_V) (q100 : Nat × Nat) (x101 : Int32) (s : sm_S) : sm_go (sm_ZZ X) sm_PP true C 283 209 [vP (23, i0), d1, d2, d3, d4, vI x5, d6] [vI x101, vP q100] s =
  sm_rq q100 23 fun j1 =>
  if x5 = 36 then
   (some (some (some (vI ((sI (sI s 23 j1 55 x101) 23 i0 51 ((sI s 23 j1 55 x101).1 23 i0 51)).1 23 i0 50))), (sI (sI s 23 j1 55 x101) 23 i0 51 ((sI s 23 j1 55 x101).1 23 i0 51))))
  else
   (some (some (some (vI ((sI (sI s 23 j1 55 x101) 23 i0 51 0).1 23 i0 50))), (sI (sI s 23 j1 55 x101) 23 i0 51 0))) :=
  (sm_go_x (cd := cd_X13_run) rfl h_X13_run 400 209 _ _ _).trans rfl
theorem h_X13_told : sm_chain 0 cd_X13_told = true := by decide +kernel
set_option maxRecDepth 20000 in
theorem q_X13_told_0 (X : Nat × (Nat → Int32)) (C : sm_C) (i0 : Nat) (x1 : Int32) (s : sm_S) : sm_go (sm_ZZ X) sm_PP true C 284 0 [vP (23, i0), vI x1] [] s =
  if (s.1 23 i0 56) = 0 then
   (some (some (some (vI (-1))), s))
  else
   (if x1 = 0 then
    (some (some (some (vI (s.1 23 i0 50))), s))
   else if x1 = 1 then
    (some (some (some (vI (s.1 23 i0 51))), s))
   else if x1 = 2 then
    (some (some (some (vI (s.1 23 i0 54))), s))
   else if x1 = 3 then
    (some (some (some (vI (s.1 23 i0 55))), s))
   else if x1 = 4 then
    (some (some (some (vI (s.1 23 i0 49))), s))
   else if x1 = 5 then
    (some (some (some (vI (s.1 23 i0 52))), s))
   else if x1 = 6 then
    (some (some (some (vI (s.1 23 i0 53))), s))
   else (some (some (some (vI (-1))), s))) :=
  (sm_go_x (cd := cd_X13_told) rfl h_X13_told 400 0 _ _ _).trans rfl
theorem h_X13_said : sm_chain 0 cd_X13_said = true := by decide +kernel
set_option maxRecDepth 20000 in
theorem q_X13_said_0 (X : Nat × (Nat → Int32)) (C : sm_C) (i0 : Nat) (x1 : Int32) (s : sm_S) : sm_go (sm_ZZ X) sm_PP true C 285 0 [vP (23, i0), vI x1] [] s =
  if x1 < 0 then
   (some (some (some (vI 0)), s))
  else
   (if x1 < (s.1 23 i0 28) then
    (sm_ix x1 300 fun z1 =>
    some (some (some (vI (s.1 80 i0 z1))), s))
   else
    (some (some (some (vI 0)), s))) :=
  (sm_go_x (cd := cd_X13_said) rfl h_X13_said 400 0 _ _ _).trans rfl
theorem h_X13_state : sm_chain 0 cd_X13_state = true := by decide +kernel
set_option maxRecDepth 20000 in
theorem q_X13_state_0 (X : Nat × (Nat → Int32)) (C : sm_C) (i0 : Nat) (x1 : Int32) (x2 : Int32) (s : sm_S) : sm_go (sm_ZZ X) sm_PP true C 286 0 [vP (23, i0), vI x1, vI x2] [] s =
  sm_bI (C 268 [vI x1] s) sm_tw fun y1 s2 =>
  if y1 = 0 then
   (some (some (some (vI 0)), s2))
  else
   (if x2 < 0 then
    (some (some (some (vI 0)), s2))
   else
    (if x2 < 18 then
     (sm_ix x1 8 fun z3 =>
     sm_ix x1 8 fun z4 =>
     if ((sI s2 90 i0 z3 x2).1 91 i0 z4) = 0 then
      (some (some (some (vI 1)), (sI s2 90 i0 z3 x2)))
     else
      (sm_ix x1 8 fun z5 =>
      sm_bI (C 269 [vP (23, i0), vI x1, vI ((sI s2 90 i0 z3 x2).1 91 i0 z5)] (sI s2 90 i0 z3 x2)) sm_tw fun y6 s7 =>
      if y6 = 0 then
       (sm_ix x1 8 fun z8 =>
       some (some (some (vI 1)), (sI s7 91 i0 z8 0)))
      else
       (some (some (some (vI 1)), s7))))
    else
     (some (some (some (vI 0)), s2)))) :=
  (sm_go_x (cd := cd_X13_state) rfl h_X13_state 400 0 _ _ _).trans rfl
theorem h_X13_tick : sm_chain 0 cd_X13_tick = true := by decide +kernel
set_option maxRecDepth 20000 in
theorem q_X13_tick_0 (X : Nat × (Nat → Int32)) (C : sm_C) (i0 : Nat) (x1 : Int32) (s : sm_S) : sm_go (sm_ZZ X) sm_PP true C 287 0 [vP (23, i0), vI x1, vU, vU, vU] [] s =
  if x1 < 0 then
   (some (some (some (vI (-1))), s))
  else
   (if 200 < x1 then
    (some (some (some (vI (-1))), s))
   else
    (sm_go (sm_ZZ X) sm_PP true C 287 17 [vP (23, i0), vI x1, vI 0, vI 0, vU] [] s)) :=
  (sm_go_x (cd := cd_X13_tick) rfl h_X13_tick 400 0 _ _ _).trans rfl
set_option maxRecDepth 20000 in
theorem q_X13_tick_17 (X : Nat × (Nat → Int32)) (C : sm_C) (i0 : Nat) (x1 : Int32) (x2 : Int32) (x3 : Int32) (d4 : sm_V) (s : sm_S) : sm_go (sm_ZZ X) sm_PP true C 287 17 [vP (23, i0), vI x1, vI x2, vI x3, d4] [] s =
  if x3 < x1 then
   (sm_go (sm_ZZ X) sm_PP true C 287 35 [vP (23, i0), vI x1, vI x2, vI x3, vI 0] [] (sI s 23 i0 61 ((s.1 23 i0 61) + 1)))
  else
   (some (some (some (vI x2)), s)) :=
  (sm_go_x (cd := cd_X13_tick) rfl h_X13_tick 400 17 _ _ _).trans rfl
set_option maxRecDepth 20000 in
theorem q_X13_tick_35 (X : Nat × (Nat → Int32)) (C : sm_C) (i0 : Nat) (x1 : Int32) (x2 : Int32) (x3 : Int32) (x4 : Int32) (s : sm_S) : sm_go (sm_ZZ X) sm_PP true C 287 35 [vP (23, i0), vI x1, vI x2, vI x3, vI x4] [] s =
  if x4 < (s.1 23 i0 60) then
   (sm_ix x4 10 fun z1 =>
   if (s.1 95 i0 z1) = 0 then
    (sm_bI (C 276 [vP (23, i0), vI x4] s) sm_tw fun y2 s3 =>
    if y2 = 0 then
     (sm_go (sm_ZZ X) sm_PP true C 287 35 [vP (23, i0), vI x1, vI (x2 + 0), vI x3, vI (x4 + 1)] [] s3)
    else
     (sm_go (sm_ZZ X) sm_PP true C 287 35 [vP (23, i0), vI x1, vI (x2 + 1), vI x3, vI (x4 + 1)] [] s3))
   else
    (sm_go (sm_ZZ X) sm_PP true C 287 35 [vP (23, i0), vI x1, vI (x2 + 0), vI x3, vI (x4 + 1)] [] s))
  else
   (sm_go (sm_ZZ X) sm_PP true C 287 17 [vP (23, i0), vI x1, vI x2, vI (x3 + 1), vI x4] [] s) :=
  (sm_go_x (cd := cd_X13_tick) rfl h_X13_tick 400 35 _ _ _).trans rfl
theorem h_X13_vehicle : sm_chain 0 cd_X13_vehicle = true := by decide +kernel
set_option maxRecDepth 20000 in
theorem q_X13_vehicle_0 (X : Nat × (Nat → Int32)) (C : sm_C) (i0 : Nat) (x1 : Int32) (x2 : Int32) (s : sm_S) : sm_go (sm_ZZ X) sm_PP true C 288 0 [vP (23, i0), vI x1, vI x2] [] s =
  if x1 < 0 then
   (some (some (some (vI (-1))), s))
  else
   (if x1 < (s.1 23 i0 24) then
    (if x2 = 0 then
     (sm_ix x1 300 fun z1 =>
     some (some (some (vI (s.1 74 i0 z1))), s))
    else if x2 = 1 then
     (sm_ix ((9 * x1) + 0) 2700 fun z2 =>
     some (some (some (vI (s.1 75 i0 z2))), s))
    else if x2 = 2 then
     (sm_ix ((9 * x1) + 1) 2700 fun z3 =>
     some (some (some (vI ((s.1 75 i0 z3) - 1))), s))
    else if x2 = 3 then
     (sm_bI (C 249 [vP (23, i0), vI x1] s) sm_tw fun y4 s5 =>
     some (some (some (vI y4)), s5))
    else if x2 = 4 then
     (sm_bI (C 250 [vP (23, i0), vI x1] s) sm_tw fun y6 s7 =>
     some (some (some (vI y6)), s7))
    else if x2 = 5 then
     (sm_bI (C 251 [vP (23, i0), vI x1] s) sm_tw fun y8 s9 =>
     some (some (some (vI y8)), s9))
    else if x2 = 6 then
     (sm_ix ((9 * x1) + 5) 2700 fun z10 =>
     some (some (some (vI (s.1 75 i0 z10))), s))
    else if x2 = 7 then
     (sm_ix ((9 * x1) + 6) 2700 fun z11 =>
     some (some (some (vI (s.1 75 i0 z11))), s))
    else if x2 = 8 then
     (sm_ix ((9 * x1) + 7) 2700 fun z12 =>
     some (some (some (vI (s.1 75 i0 z12))), s))
    else if x2 = 9 then
     (sm_ix ((9 * x1) + 8) 2700 fun z13 =>
     some (some (some (vI (s.1 75 i0 z13))), s))
    else (some (some (some (vI (-1))), s)))
   else
    (some (some (some (vI (-1))), s))) :=
  (sm_go_x (cd := cd_X13_vehicle) rfl h_X13_vehicle 400 0 _ _ _).trans rfl
theorem h_X13_least : sm_chain 0 cd_X13_least = true := by decide +kernel
set_option maxRecDepth 20000 in
theorem q_X13_least_0 (X : Nat × (Nat → Int32)) (C : sm_C) (i0 : Nat) (x1 : Int32) (s : sm_S) : sm_go (sm_ZZ X) sm_PP true C 289 0 [vP (23, i0), vI x1, vU] [] s =
  sm_go (sm_ZZ X) sm_PP true C 289 2 [vP (23, i0), vI x1, vI 0] [] s :=
  (sm_go_x (cd := cd_X13_least) rfl h_X13_least 400 0 _ _ _).trans rfl
set_option maxRecDepth 20000 in
theorem q_X13_least_2 (X : Nat × (Nat → Int32)) (C : sm_C) (i0 : Nat) (x1 : Int32) (x2 : Int32) (s : sm_S) : sm_go (sm_ZZ X) sm_PP true C 289 2 [vP (23, i0), vI x1, vI x2] [] s =
  sm_ix x2 8 fun z1 =>
  sm_ix x1 8 fun z2 =>
  if (s.1 91 i0 z1) = (s.1 91 i0 z2) then
   (some (some (some (vI x2)), s))
  else
   (sm_go (sm_ZZ X) sm_PP true C 289 2 [vP (23, i0), vI x1, vI (x2 + 1)] [] s) :=
  (sm_go_x (cd := cd_X13_least) rfl h_X13_least 400 2 _ _ _).trans rfl
theorem h_X13_track : sm_chain 0 cd_X13_track = true := by decide +kernel
set_option maxRecDepth 20000 in
theorem q_X13_track_0 (X : Nat × (Nat → Int32)) (C : sm_C) (i0 : Nat) (x1 : Int32) (x2 : Int32) (s : sm_S) : sm_go (sm_ZZ X) sm_PP true C 290 0 [vP (23, i0), vI x1, vI x2, vU] [] s =
  sm_bI (C 268 [vI x1] s) sm_tw fun y1 s2 =>
  if y1 = 0 then
   (some (some (some (vI (-1))), s2))
  else
   (sm_ix x1 8 fun z3 =>
   if x2 = 0 then
    (sm_ix x1 8 fun z4 =>
    some (some (some (vI (s2.1 90 i0 z4))), s2))
   else if x2 = 1 then
    (if ((s2.1 91 i0 z3) - 1001) < 0 then
     (some (some (some (vI (-1))), s2))
    else
     (sm_ix ((s2.1 91 i0 z3) - 1001) 200 fun z5 =>
     some (some (some (vI (s2.1 76 i0 z5))), s2)))
   else if x2 = 2 then
    (if ((s2.1 91 i0 z3) - 1001) < 0 then
     (some (some (some (vI 0)), s2))
    else
     (sm_ix ((s2.1 91 i0 z3) - 1001) 200 fun z6 =>
     some (some (some (vI (s2.1 78 i0 z6))), s2)))
   else if x2 = 3 then
    (if ((s2.1 91 i0 z3) - 1001) < 0 then
     (some (some (some (vI (-1))), s2))
    else
     (sm_bI (C 289 [vP (23, i0), vI x1] s2) sm_tw fun y7 s8 =>
     some (some (some (vI y7)), s8)))
   else (some (some (some (vI (-1))), s2))) :=
  (sm_go_x (cd := cd_X13_track) rfl h_X13_track 400 0 _ _ _).trans rfl
theorem h_X13_place : sm_chain 0 cd_X13_place = true := by decide +kernel
set_option maxRecDepth 20000 in
theorem q_X13_place_0 (X : Nat × (Nat → Int32)) (C : sm_C) (i0 : Nat) (x1 : Int32) (x2 : Int32) (s : sm_S) : sm_go (sm_ZZ X) sm_PP true C 291 0 [vP (23, i0), vI x1, vI x2, vU] [] s =
  sm_bI (C 268 [vI x1] s) sm_tw fun y1 s2 =>
  if y1 = 0 then
   (some (some (some (vI (-1))), s2))
  else
   (sm_ix x1 8 fun z3 =>
   if (s2.1 91 i0 z3) = 0 then
    (some (some (some (vI (-1))), s2))
   else
    (sm_ix x1 8 fun z4 =>
    if x2 < 0 then
     (some (some (some (vI (-1))), s2))
    else
     (sm_ix ((s2.1 91 i0 z4) - 1001) 200 fun z5 =>
     if x2 < (s2.1 78 i0 z5) then
      (sm_ix ((s2.1 91 i0 z4) - 1001) 200 fun z6 =>
      sm_ix ((s2.1 77 i0 z6) + x2) 2000 fun z7 =>
      sm_bI (C 247 [vI (s2.1 79 i0 z7)] s2) sm_tw fun y8 s9 =>
      some (some (some (vI y8)), s9))
     else
      (some (some (some (vI (-1))), s2))))) :=
  (sm_go_x (cd := cd_X13_place) rfl h_X13_place 400 0 _ _ _).trans rfl
theorem h_X13_train : sm_chain 0 cd_X13_train = true := by decide +kernel
set_option maxRecDepth 20000 in
theorem q_X13_train_0 (X : Nat × (Nat → Int32)) (C : sm_C) (i0 : Nat) (x1 : Int32) (x2 : Int32) (s : sm_S) : sm_go (sm_ZZ X) sm_PP true C 292 0 [vP (23, i0), vI x1, vI x2] [] s =
  if x1 < 0 then
   (some (some (some (vI (-1))), s))
  else
   (if x1 < (s.1 23 i0 60) then
    (if x2 = 0 then
     (sm_ix x1 10 fun z1 =>
     some (some (some (vI (s.1 95 i0 z1))), s))
    else if x2 = 1 then
     (sm_ix x1 10 fun z2 =>
     some (some (some (vI (s.1 93 i0 z2))), s))
    else if x2 = 2 then
     (sm_ix x1 10 fun z3 =>
     some (some (some (vI (s.1 94 i0 z3))), s))
    else if x2 = 3 then
     (sm_ix x1 10 fun z4 =>
     some (some (some (vI (s.1 96 i0 z4))), s))
    else if x2 = 4 then
     (sm_ix x1 10 fun z5 =>
     sm_bI (C 273 [vP (23, i0), vI ((s.1 92 i0 z5) - 1001)] s) sm_tw fun y6 s7 =>
     some (some (some (vI y6)), s7))
    else (some (some (some (vI (-1))), s)))
   else
    (some (some (some (vI (-1))), s))) :=
  (sm_go_x (cd := cd_X13_train) rfl h_X13_train 400 0 _ _ _).trans rfl
end
