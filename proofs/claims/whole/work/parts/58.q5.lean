section
theorem h_X11_train : sm_chain 0 cd_X11_train = true := by decide +kernel
set_option maxRecDepth 20000 in
theorem q_X11_train_0 (X : Nat × (Nat → Int32)) (C : sm_C) (i0 : Nat) (x1 : Int32) (x2 : Int32) (s : sm_S) : sm_go (sm_ZZ X) sm_PP true C 178 0 [vP (21, i0), vI x1, vI x2] [] s =
  sm_bI (C 40 [vP (12, i0), vI x1, vI x2] s) sm_tw fun y1 s2 =>
  some (some (some (vI y1)), s2) :=
  (sm_go_x (cd := cd_X11_train) rfl h_X11_train 400 0 _ _ _).trans rfl
theorem h_X11_count : sm_chain 0 cd_X11_count = true := by decide +kernel
set_option maxRecDepth 20000 in
theorem q_X11_count_0 (X : Nat × (Nat → Int32)) (C : sm_C) (i0 : Nat) (x1 : Int32) (s : sm_S) : sm_go (sm_ZZ X) sm_PP true C 179 0 [vP (21, i0), vI x1] [] s =
  if x1 = 0 then
   (if (s.2.2.1 21 i0 5).1 = 10 then
    (sm_bI (C 2 [vP (s.2.2.1 21 i0 5)] s) sm_tw fun y1 s2 =>
   some (some (some (vI y1)), s2))
   else none)
  else if x1 = 1 then
   (some (some (some (vI (s.1 20 i0 2))), s))
  else if x1 = 2 then
   (some (some (some (vI (s.1 20 i0 3))), s))
  else if x1 = 3 then
   (some (some (some (vI (s.1 20 i0 4))), s))
  else if x1 = 4 then
   (some (some (some (vI (s.1 12 i0 3))), s))
  else if x1 = 5 then
   (some (some (some (vI (s.1 12 i0 4))), s))
  else if x1 = 6 then
   (some (some (some (vI (s.1 13 i0 17))), s))
  else if x1 = 7 then
   (some (some (some (vI (s.1 13 i0 16))), s))
  else if x1 = 8 then
   (some (some (some (vI (s.1 17 i0 1))), s))
  else (some (some (some (vI (-1))), s)) :=
  (sm_go_x (cd := cd_X11_count) rfl h_X11_count 400 0 _ _ _).trans rfl
theorem h_X13_has : sm_chain 0 cd_X13_has = true := by decide +kernel
set_option maxRecDepth 20000 in
theorem q_X13_has_0 (X : Nat × (Nat → Int32)) (C : sm_C) (x0 : Int32) (x1 : Int32) (s : sm_S) : sm_go (sm_ZZ X) sm_PP true C 181 0 [vI x0, vI x1] [] s =
  if x1 = 13 then
   (sm_bI (C 182 [vI x0, vI 5] s) sm_tw fun y1 s2 =>
   if y1 = 0 then
    (sm_bI (C 182 [vI x0, vI 6] s2) sm_tw fun y3 s4 =>
    if y3 = 0 then
     (sm_bI (C 182 [vI x0, vI 7] s4) sm_tw fun y5 s6 =>
     if y5 = 0 then
      (some (some (some (vI 0)), s6))
     else
      (some (some (some (vI 1)), s6)))
    else
     (some (some (some (vI 1)), s4)))
   else
    (some (some (some (vI 1)), s2)))
  else if x1 = 14 then
   (if x0 = 10 then
    (some (some (some (vI 1)), s))
   else
    (if x0 = 11 then
     (some (some (some (vI 1)), s))
    else
     (some (some (some (vI 0)), s))))
  else if x1 = 15 then
   (sm_bI (C 182 [vI x0, vI 1] s) sm_tw fun y7 s8 =>
   if y7 = 0 then
    (if x0 = 8 then
     (some (some (some (vI 1)), s8))
    else
     (some (some (some (vI 0)), s8)))
   else
    (some (some (some (vI 1)), s8)))
  else if x1 = 16 then
   (if x0 = 9 then
    (some (some (some (vI 1)), s))
   else
    (if x0 = 12 then
     (some (some (some (vI 1)), s))
    else
     (some (some (some (vI 0)), s))))
  else (if x0 = 3 then
    (some (some (some (vI 1)), s))
   else
    (sm_bI (C 182 [vI x0, vI 4] s) sm_tw fun y9 s10 =>
    if y9 = 0 then
     (if x0 = 10 then
      (some (some (some (vI 1)), s10))
     else
      (some (some (some (vI 0)), s10)))
    else
     (some (some (some (vI 1)), s10)))) :=
  (sm_go_x (cd := cd_X13_has) rfl h_X13_has 400 0 _ _ _).trans rfl
theorem h_X13_isBelow : sm_chain 0 cd_X13_isBelow = true := by decide +kernel
set_option maxRecDepth 20000 in
theorem q_X13_isBelow_0 (X : Nat × (Nat → Int32)) (C : sm_C) (x0 : Int32) (x1 : Int32) (s : sm_S) : sm_go (sm_ZZ X) sm_PP true C 182 0 [vI x0, vI x1, vU] [] s =
  if x0 = x1 then
   (some (some (some (vI 1)), s))
  else
   (if x0 < 13 then
    (if x1 < 13 then
     (sm_ix x0 (sm_tb 5).length fun z1 =>
     sm_go (sm_ZZ X) sm_PP true C 182 33 [vI x0, vI x1, vI ((sm_tb 5).getD z1 0)] [] s)
    else
     (sm_bI (C 181 [vI x0, vI x1] s) sm_tw fun y2 s3 =>
     sm_rt 1 y2 s3))
   else
    (some (some (some (vI 0)), s))) :=
  (sm_go_x (cd := cd_X13_isBelow) rfl h_X13_isBelow 400 0 _ _ _).trans rfl
set_option maxRecDepth 20000 in
theorem q_X13_isBelow_33 (X : Nat × (Nat → Int32)) (C : sm_C) (d0 : sm_V) (x1 : Int32) (x2 : Int32) (s : sm_S) : sm_go (sm_ZZ X) sm_PP true C 182 33 [d0, vI x1, vI x2] [] s =
  if x2 = (-1) then
   (if x2 = x1 then
    (some (some (some (vI 1)), s))
   else
    (some (some (some (vI 0)), s)))
  else
   (if x2 = x1 then
    (if x2 = x1 then
     (some (some (some (vI 1)), s))
    else
     (some (some (some (vI 0)), s)))
   else
    (sm_ix x2 (sm_tb 5).length fun z1 =>
    sm_go (sm_ZZ X) sm_PP true C 182 33 [vU, vI x1, vI ((sm_tb 5).getD z1 0)] [] s)) :=
  (sm_go_x (cd := cd_X13_isBelow) rfl h_X13_isBelow 400 33 _ _ _).trans rfl
theorem h_X13_isReference : sm_chain 0 cd_X13_isReference = true := by decide +kernel
set_option maxRecDepth 20000 in
theorem q_X13_isReference_0 (X : Nat × (Nat → Int32)) (C : sm_C) (x0 : Int32) (s : sm_S) : sm_go (sm_ZZ X) sm_PP true C 183 0 [vI x0] [] s =
  if x0 < 0 then
   (if x0 = 37 then
    (some (some (some (vI 1)), s))
   else
    (some (some (some (vI 0)), s)))
  else
   (if x0 < 36 then
    (some (some (some (vI 1)), s))
   else
    (if x0 = 37 then
     (some (some (some (vI 1)), s))
    else
     (some (some (some (vI 0)), s)))) :=
  (sm_go_x (cd := cd_X13_isReference) rfl h_X13_isReference 400 0 _ _ _).trans rfl
theorem h_X13_isRow : sm_chain 0 cd_X13_isRow = true := by decide +kernel
set_option maxRecDepth 20000 in
theorem q_X13_isRow_0 (X : Nat × (Nat → Int32)) (C : sm_C) (x0 : Int32) (s : sm_S) : sm_go (sm_ZZ X) sm_PP true C 184 0 [vI x0] [] s =
  if x0 < 18 then
   (some (some (some (vI 0)), s))
  else
   (if x0 < 36 then
    (some (some (some (vI 1)), s))
   else
    (some (some (some (vI 0)), s))) :=
  (sm_go_x (cd := cd_X13_isRow) rfl h_X13_isRow 400 0 _ _ _).trans rfl
theorem h_X13_fits : sm_chain 0 cd_X13_fits = true := by decide +kernel
set_option maxRecDepth 20000 in
theorem q_X13_fits_0 (X : Nat × (Nat → Int32)) (C : sm_C) (x0 : Int32) (x1 : Int32) (s : sm_S) : sm_go (sm_ZZ X) sm_PP true C 185 0 [vI x0, vI x1] [] s =
  if x0 = 37 then
   (sm_bI (C 183 [vI x1] s) sm_tw fun y1 s2 =>
   sm_rt 1 y1 s2)
  else
   (if x0 < 36 then
    (if x1 < 36 then
     (sm_bI (C 184 [vI x0] s) sm_tw fun y3 s4 =>
     sm_bI (C 184 [vI x1] s4) sm_tw fun y5 s6 =>
     if y3 = y5 then
      (sm_bI (C 182 [vI (x0 - x0 / 18 * 18), vI (x1 - x1 / 18 * 18)] s6) sm_tw fun y7 s8 =>
      if y7 = 0 then
       (some (some (some (vI 0)), s8))
      else
       (some (some (some (vI 1)), s8)))
     else
      (some (some (some (vI 0)), s6)))
    else
     (sm_go (sm_ZZ X) sm_PP true C 185 23 [vI x0, vI x1] [] s))
   else
    (sm_go (sm_ZZ X) sm_PP true C 185 23 [vI x0, vI x1] [] s)) :=
  (sm_go_x (cd := cd_X13_fits) rfl h_X13_fits 400 0 _ _ _).trans rfl
set_option maxRecDepth 20000 in
theorem q_X13_fits_23 (X : Nat × (Nat → Int32)) (C : sm_C) (x0 : Int32) (x1 : Int32) (s : sm_S) : sm_go (sm_ZZ X) sm_PP true C 185 23 [vI x0, vI x1] [] s =
  if x0 = 36 then
   (if x1 = 36 then
    (some (some (some (vI 1)), s))
   else
    (some (some (some (vI 0)), s)))
  else
   (some (some (some (vI 0)), s)) :=
  (sm_go_x (cd := cd_X13_fits) rfl h_X13_fits 400 23 _ _ _).trans rfl
theorem h_X13_mayBe : sm_chain 0 cd_X13_mayBe = true := by decide +kernel
set_option maxRecDepth 20000 in
theorem q_X13_mayBe_0 (X : Nat × (Nat → Int32)) (C : sm_C) (x0 : Int32) (x1 : Int32) (s : sm_S) : sm_go (sm_ZZ X) sm_PP true C 186 0 [vI x0, vI x1, vU, vU] [] s =
  sm_bI (C 183 [vI x0] s) sm_tw fun y1 s2 =>
  if y1 = 0 then
   (some (some (some (vI 0)), s2))
  else
   (sm_bI (C 183 [vI x1] s2) sm_tw fun y3 s4 =>
   if y3 = 0 then
    (some (some (some (vI 0)), s4))
   else
    (if x0 = 37 then
     (some (some (some (vI 1)), s4))
    else
     (sm_bI (C 184 [vI x0] s4) sm_tw fun y5 s6 =>
     sm_bI (C 184 [vI x1] s6) sm_tw fun y7 s8 =>
     if y5 = y7 then
      (if (x0 - x0 / 18 * 18) < 13 then
       (if (x1 - x1 / 18 * 18) < 13 then
        (sm_bI (C 182 [vI (x0 - x0 / 18 * 18), vI (x1 - x1 / 18 * 18)] s8) sm_tw fun y9 s10 =>
        if y9 = 0 then
         (sm_bI (C 182 [vI (x1 - x1 / 18 * 18), vI (x0 - x0 / 18 * 18)] s10) sm_tw fun y11 s12 =>
         if y11 = 0 then
          (some (some (some (vI 0)), s12))
         else
          (some (some (some (vI 1)), s12)))
        else
         (some (some (some (vI 1)), s10)))
       else
        (some (some (some (vI 1)), s8)))
      else
       (some (some (some (vI 1)), s8)))
     else
      (some (some (some (vI 0)), s8))))) :=
  (sm_go_x (cd := cd_X13_mayBe) rfl h_X13_mayBe 400 0 _ _ _).trans rfl
theorem h_X13_isSmall : sm_chain 0 cd_X13_isSmall = true := by decide +kernel
set_option maxRecDepth 20000 in
theorem q_X13_isSmall_0 (X : Nat × (Nat → Int32)) (C : sm_C) (x0 : Int32) (s : sm_S) : sm_go (sm_ZZ X) sm_PP true C 187 0 [vI x0] [] s =
  if x0 < 97 then
   (some (some (some (vI 0)), s))
  else
   (if 122 < x0 then
    (some (some (some (vI 0)), s))
   else
    (some (some (some (vI 1)), s))) :=
  (sm_go_x (cd := cd_X13_isSmall) rfl h_X13_isSmall 400 0 _ _ _).trans rfl
theorem h_X13_isCapital : sm_chain 0 cd_X13_isCapital = true := by decide +kernel
set_option maxRecDepth 20000 in
theorem q_X13_isCapital_0 (X : Nat × (Nat → Int32)) (C : sm_C) (x0 : Int32) (s : sm_S) : sm_go (sm_ZZ X) sm_PP true C 188 0 [vI x0] [] s =
  if x0 < 65 then
   (some (some (some (vI 0)), s))
  else
   (if 90 < x0 then
    (some (some (some (vI 0)), s))
   else
    (some (some (some (vI 1)), s))) :=
  (sm_go_x (cd := cd_X13_isCapital) rfl h_X13_isCapital 400 0 _ _ _).trans rfl
theorem h_X13_isDigit : sm_chain 0 cd_X13_isDigit = true := by decide +kernel
set_option maxRecDepth 20000 in
theorem q_X13_isDigit_0 (X : Nat × (Nat → Int32)) (C : sm_C) (x0 : Int32) (s : sm_S) : sm_go (sm_ZZ X) sm_PP true C 189 0 [vI x0] [] s =
  if x0 < 48 then
   (some (some (some (vI 0)), s))
  else
   (if 57 < x0 then
    (some (some (some (vI 0)), s))
   else
    (some (some (some (vI 1)), s))) :=
  (sm_go_x (cd := cd_X13_isDigit) rfl h_X13_isDigit 400 0 _ _ _).trans rfl
theorem h_X13_sign : sm_chain 0 cd_X13_sign = true := by decide +kernel
set_option maxRecDepth 20000 in
theorem q_X13_sign_0 (X : Nat × (Nat → Int32)) (C : sm_C) (i0 : Nat) (x1 : Int32) (s : sm_S) : sm_go (sm_ZZ X) sm_PP true C 190 0 [vP (23, i0), vI x1] [] s =
  if x1 < (s.1 23 i0 5) then
   (sm_ix x1 3000 fun z1 =>
   some (some (some (vI ((s.1 67 i0 z1) &&& 255))), s))
  else
   (some (some (some (vI (-1))), s)) :=
  (sm_go_x (cd := cd_X13_sign) rfl h_X13_sign 400 0 _ _ _).trans rfl
theorem h_X13_packed : sm_chain 0 cd_X13_packed = true := by decide +kernel
set_option maxRecDepth 20000 in
theorem q_X13_packed_0 (X : Nat × (Nat → Int32)) (C : sm_C) (i0 : Nat) (s : sm_S) : sm_go (sm_ZZ X) sm_PP true C 191 0 [vP (5, i0), vU, vU, vU] [] s =
  sm_go (sm_ZZ X) sm_PP true C 191 4 [vP (5, i0), vL 0, vU, vI 0] [] s :=
  (sm_go_x (cd := cd_X13_packed) rfl h_X13_packed 400 0 _ _ _).trans rfl
set_option maxRecDepth 20000 in
theorem q_X13_packed_4 (X : Nat × (Nat → Int32)) (C : sm_C) (i0 : Nat) (x1 : Int64) (d2 : sm_V) (x3 : Int32) (s : sm_S) : sm_go (sm_ZZ X) sm_PP true C 191 4 [vP (5, i0), vL x1, d2, vI x3] [] s =
  sm_bI (C 294 [vP (5, i0)] s) sm_tw fun y1 s2 =>
  if x3 < y1 then
   (sm_bI (C 295 [vP (5, i0), vI x3] s2) sm_tw fun y3 s4 =>
   sm_go (sm_ZZ X) sm_PP true C 191 4 [vP (5, i0), vL ((x1 <<< ((8 : Int32).toInt64 &&& 63)) ||| (Int32.toInt64 y3)), vU, vI (x3 + 1)] [] s4)
  else
   (some (some (some (vL x1)), s2)) :=
  (sm_go_x (cd := cd_X13_packed) rfl h_X13_packed 400 4 _ _ _).trans rfl
theorem h_X13_wordOf : sm_chain 0 cd_X13_wordOf = true := by decide +kernel
set_option maxRecDepth 20000 in
theorem q_X13_wordOf_0 (X : Nat × (Nat → Int32)) (C : sm_C) (x0 : Int64) (s : sm_S) : sm_go (sm_ZZ X) sm_PP true C 192 0 [vL x0, vU, vU] [] s =
  sm_go (sm_ZZ X) sm_PP true C 192 2 [vL x0, vU, vI 0] [] s :=
  (sm_go_x (cd := cd_X13_wordOf) rfl h_X13_wordOf 400 0 _ _ _).trans rfl
set_option maxRecDepth 20000 in
theorem q_X13_wordOf_2 (X : Nat × (Nat → Int32)) (C : sm_C) (x0 : Int64) (d1 : sm_V) (x2 : Int32) (s : sm_S) : sm_go (sm_ZZ X) sm_PP true C 192 2 [vL x0, d1, vI x2] [] s =
  if x2 < 15 then
   (sm_bP (C 193 [vI x2] s) sm_tw fun y1 s2 =>
   sm_bL (C 191 [vP y1] s2) sm_tw fun y3 s4 =>
   if (lg_cmp y3 x0) = 0 then
    (some (some (some (vI x2)), s4))
   else
    (sm_go (sm_ZZ X) sm_PP true C 192 2 [vL x0, vU, vI (x2 + 1)] [] s4))
  else
   (some (some (some (vI (-1))), s)) :=
  (sm_go_x (cd := cd_X13_wordOf) rfl h_X13_wordOf 400 2 _ _ _).trans rfl
theorem h_X13_word : sm_chain 0 cd_X13_word = true := by decide +kernel
set_option maxRecDepth 20000 in
theorem q_X13_word_0 (X : Nat × (Nat → Int32)) (C : sm_C) (x0 : Int32) (s : sm_S) : sm_go (sm_ZZ X) sm_PP true C 193 0 [vI x0] [] s =
  if x0 = 0 then
   (some (some (some (vP (5, 6))), s))
  else if x0 = 1 then
   (some (some (some (vP (5, 7))), s))
  else if x0 = 2 then
   (some (some (some (vP (5, 8))), s))
  else if x0 = 3 then
   (some (some (some (vP (5, 9))), s))
  else if x0 = 4 then
   (some (some (some (vP (5, 10))), s))
  else if x0 = 5 then
   (some (some (some (vP (5, 11))), s))
  else if x0 = 6 then
   (some (some (some (vP (5, 12))), s))
  else if x0 = 7 then
   (some (some (some (vP (5, 13))), s))
  else if x0 = 8 then
   (some (some (some (vP (5, 14))), s))
  else if x0 = 9 then
   (some (some (some (vP (5, 15))), s))
  else if x0 = 10 then
   (some (some (some (vP (5, 16))), s))
  else if x0 = 11 then
   (some (some (some (vP (5, 17))), s))
  else if x0 = 12 then
   (some (some (some (vP (5, 18))), s))
  else if x0 = 13 then
   (some (some (some (vP (5, 19))), s))
  else (some (some (some (vP (5, 20))), s)) :=
  (sm_go_x (cd := cd_X13_word) rfl h_X13_word 400 0 _ _ _).trans rfl
theorem h_X13_kindName : sm_chain 0 cd_X13_kindName = true := by decide +kernel
set_option maxRecDepth 20000 in
theorem q_X13_kindName_0 (X : Nat × (Nat → Int32)) (C : sm_C) (x0 : Int32) (s : sm_S) : sm_go (sm_ZZ X) sm_PP true C 194 0 [vI x0] [] s =
  if x0 = 0 then
   (some (some (some (vP (5, 21))), s))
  else if x0 = 1 then
   (some (some (some (vP (5, 22))), s))
  else if x0 = 2 then
   (some (some (some (vP (5, 23))), s))
  else if x0 = 3 then
   (some (some (some (vP (5, 24))), s))
  else if x0 = 4 then
   (some (some (some (vP (5, 25))), s))
  else if x0 = 5 then
   (some (some (some (vP (5, 26))), s))
  else if x0 = 6 then
   (some (some (some (vP (5, 27))), s))
  else if x0 = 7 then
   (some (some (some (vP (5, 28))), s))
  else if x0 = 8 then
   (some (some (some (vP (5, 29))), s))
  else if x0 = 9 then
   (some (some (some (vP (5, 30))), s))
  else if x0 = 10 then
   (some (some (some (vP (5, 31))), s))
  else if x0 = 11 then
   (some (some (some (vP (5, 32))), s))
  else if x0 = 12 then
   (some (some (some (vP (5, 33))), s))
  else if x0 = 13 then
   (some (some (some (vP (5, 34))), s))
  else if x0 = 14 then
   (some (some (some (vP (5, 35))), s))
  else if x0 = 15 then
   (some (some (some (vP (5, 36))), s))
  else if x0 = 16 then
   (some (some (some (vP (5, 37))), s))
  else if x0 = 17 then
   (some (some (some (vP (5, 38))), s))
  else (some (some (some (vP (5, 39))), s)) :=
  (sm_go_x (cd := cd_X13_kindName) rfl h_X13_kindName 400 0 _ _ _).trans rfl
theorem h_X13_kindOf : sm_chain 0 cd_X13_kindOf = true := by decide +kernel
set_option maxRecDepth 20000 in
theorem q_X13_kindOf_0 (X : Nat × (Nat → Int32)) (C : sm_C) (i0 : Nat) (x1 : Int32) (x2 : Int32) (s : sm_S) : sm_go (sm_ZZ X) sm_PP true C 195 0 [vP (23, i0), vI x1, vI x2, vU, vU, vU] [] s =
  if 8 < x2 then
   (some (some (some (vI (-1))), s))
  else
   (sm_go (sm_ZZ X) sm_PP true C 195 13 [vP (23, i0), vI x1, vI x2, vL 0, vU, vI 0] [] s) :=
  (sm_go_x (cd := cd_X13_kindOf) rfl h_X13_kindOf 400 0 _ _ _).trans rfl
set_option maxRecDepth 20000 in
theorem q_X13_kindOf_13 (X : Nat × (Nat → Int32)) (C : sm_C) (i0 : Nat) (x1 : Int32) (x2 : Int32) (x3 : Int64) (d4 : sm_V) (x5 : Int32) (s : sm_S) : sm_go (sm_ZZ X) sm_PP true C 195 13 [vP (23, i0), vI x1, vI x2, vL x3, d4, vI x5] [] s =
  if x5 < x2 then
   (sm_ix (x1 + x5) 3000 fun z1 =>
   sm_go (sm_ZZ X) sm_PP true C 195 13 [vP (23, i0), vI x1, vI x2, vL ((x3 <<< ((8 : Int32).toInt64 &&& 63)) ||| (Int32.toInt64 (s.1 67 i0 z1))), vU, vI (x5 + 1)] [] s)
  else
   (sm_go (sm_ZZ X) sm_PP true C 195 44 [vP (23, i0), vI x1, vI x2, vL x3, vU, vI 0] [] s) :=
  (sm_go_x (cd := cd_X13_kindOf) rfl h_X13_kindOf 400 13 _ _ _).trans rfl
set_option maxRecDepth 20000 in
theorem q_X13_kindOf_44 (X : Nat × (Nat → Int32)) (C : sm_C) (d0 : sm_V) (d1 : sm_V) (d2 : sm_V) (x3 : Int64) (d4 : sm_V) (x5 : Int32) (s : sm_S) : sm_go (sm_ZZ X) sm_PP true C 195 44 [d0, d1, d2, vL x3, d4, vI x5] [] s =
  if x5 < 18 then
   (sm_bP (C 194 [vI x5] s) sm_tw fun y1 s2 =>
   sm_bL (C 191 [vP y1] s2) sm_tw fun y3 s4 =>
   if (lg_cmp y3 x3) = 0 then
    (some (some (some (vI x5)), s4))
   else
    (sm_go (sm_ZZ X) sm_PP true C 195 44 [vU, vU, vU, vL x3, vU, vI (x5 + 1)] [] s4))
  else
   (sm_bL (C 191 [vP (5, 39)] s) sm_tw fun y5 s6 =>
   if (lg_cmp y5 x3) = 0 then
    (some (some (some (vI 36)), s6))
   else
    (some (some (some (vI (-1))), s6))) :=
  (sm_go_x (cd := cd_X13_kindOf) rfl h_X13_kindOf 400 44 _ _ _).trans rfl
theorem h_X13_scan : sm_chain 0 cd_X13_scan = true := by decide +kernel
set_option maxRecDepth 20000 in
theorem q_X13_scan_0 (X : Nat × (Nat → Int32)) (C : sm_C) (i0 : Nat) (x1 : Int32) (s : sm_S) : sm_go (sm_ZZ X) sm_PP true C 196 0 [vP (23, i0), vI x1, vU, vU, vU, vU] [] s =
  sm_go (sm_ZZ X) sm_PP true C 196 12 [vP (23, i0), vI x1, vI 0, vI 0, vI 1, vU] [] (sI s 23 i0 5 x1) :=
  (sm_go_x (cd := cd_X13_scan) rfl h_X13_scan 400 0 _ _ _).trans rfl
set_option maxRecDepth 20000 in
theorem q_X13_scan_12 (X : Nat × (Nat → Int32)) (C : sm_C) (i0 : Nat) (d1 : sm_V) (x2 : Int32) (x3 : Int32) (x4 : Int32) (d5 : sm_V) (s : sm_S) : sm_go (sm_ZZ X) sm_PP true C 196 12 [vP (23, i0), d1, vI x2, vI x3, vI x4, d5] [] s =
  if x4 = 0 then
   (some (some none, s))
  else
   (sm_go (sm_ZZ X) sm_PP true C 196 17 [vP (23, i0), vU, vI x2, vI x3, vI x4, vU] [] s) :=
  (sm_go_x (cd := cd_X13_scan) rfl h_X13_scan 400 12 _ _ _).trans rfl
set_option maxRecDepth 20000 in
theorem q_X13_scan_17 (X : Nat × (Nat → Int32)) (C : sm_C) (i0 : Nat) (d1 : sm_V) (x2 : Int32) (x3 : Int32) (d4 : sm_V) (d5 : sm_V) (s : sm_S) : sm_go (sm_ZZ X) sm_PP true C 196 17 [vP (23, i0), d1, vI x2, vI x3, d4, d5] [] s =
  sm_bI (C 190 [vP (23, i0), vI x2] s) sm_tw fun y1 s2 =>
  if y1 = 32 then
   (sm_go (sm_ZZ X) sm_PP true C 196 17 [vP (23, i0), vU, vI (x2 + 1), vI x3, vU, vU] [] s2)
  else
   (sm_bI (C 190 [vP (23, i0), vI x2] s2) sm_tw fun y3 s4 =>
   if y3 = 10 then
    (sm_go (sm_ZZ X) sm_PP true C 196 17 [vP (23, i0), vU, vI (x2 + 1), vI x3, vU, vU] [] s4)
   else
    (sm_ix x3 803 fun z5 =>
    sm_bI (C 197 [vP (23, i0), vI x3, vI x2] (sI s4 69 i0 z5 x2)) sm_tw fun y6 s7 =>
    sm_ix x3 803 fun z8 =>
    if (s7.1 68 i0 z8) = 7 then
     (sm_go (sm_ZZ X) sm_PP true C 196 12 [vP (23, i0), vU, vI (x2 + y6), vI (x3 + 1), vI 0, vI y6] [] s7)
    else
     (sm_ix x3 803 fun z9 =>
     if (s7.1 68 i0 z9) = 6 then
      (sm_go (sm_ZZ X) sm_PP true C 196 12 [vP (23, i0), vU, vI (x2 + y6), vI (x3 + 1), vI 0, vI y6] [] s7)
     else
      (if 800 < x3 then
       (sm_go (sm_ZZ X) sm_PP true C 196 12 [vP (23, i0), vU, vI (x2 + y6), vI (x3 + 1), vI 0, vI y6] [] s7)
      else
       (sm_go (sm_ZZ X) sm_PP true C 196 12 [vP (23, i0), vU, vI (x2 + y6), vI (x3 + 1), vI 1, vI y6] [] s7))))) :=
  (sm_go_x (cd := cd_X13_scan) rfl h_X13_scan 400 17 _ _ _).trans rfl
theorem h_X13_token : sm_chain 0 cd_X13_token = true := by decide +kernel
set_option maxRecDepth 20000 in
theorem q_X13_token_0 (X : Nat × (Nat → Int32)) (C : sm_C) (i0 : Nat) (x1 : Int32) (x2 : Int32) (s : sm_S) : sm_go (sm_ZZ X) sm_PP true C 197 0 [vP (23, i0), vI x1, vI x2, vU, vU, vU] [] s =
  sm_bI (C 190 [vP (23, i0), vI x2] s) sm_tw fun y1 s2 =>
  sm_ix x1 803 fun z3 =>
  if y1 = (-1) then
   (sm_ix x1 803 fun z4 =>
   some (some (some (vI 0)), (sI (sL s2 70 i0 z3 0) 68 i0 z4 7)))
  else
   (sm_bI (C 187 [vI y1] (sL s2 70 i0 z3 0)) sm_tw fun y5 s6 =>
   if y5 = 0 then
    (sm_bI (C 188 [vI y1] s6) sm_tw fun y7 s8 =>
    if y7 = 0 then
     (sm_bI (C 189 [vI y1] s8) sm_tw fun y9 s10 =>
     if y9 = 0 then
      (sm_ix x1 803 fun z11 =>
      sm_ix x1 803 fun z12 =>
      sm_bI (C 190 [vP (23, i0), vI (x2 + 1)] (sL (sI s10 68 i0 z11 4) 70 i0 z12 (Int32.toInt64 y1))) sm_tw fun y13 s14 =>
      if y13 = 61 then
       (if y1 = 61 then
        (sm_go (sm_ZZ X) sm_PP true C 197 288 [vP (23, i0), vI x1, vI x2, vI y1, vI 1, vU] [vI 1] s14)
       else
        (if y1 = 33 then
         (sm_go (sm_ZZ X) sm_PP true C 197 288 [vP (23, i0), vI x1, vI x2, vI y1, vI 1, vU] [vI 1] s14)
        else
         (sm_go (sm_ZZ X) sm_PP true C 197 288 [vP (23, i0), vI x1, vI x2, vI y1, vI 1, vU] [vI 0] s14)))
      else
       (sm_go (sm_ZZ X) sm_PP true C 197 288 [vP (23, i0), vI x1, vI x2, vI y1, vI 1, vU] [vI 0] s14))
     else
      (sm_go (sm_ZZ X) sm_PP true C 197 121 [vP (23, i0), vI x1, vI x2, vI y1, vI 1, vU] [] s10))
    else
     (sm_go (sm_ZZ X) sm_PP true C 197 52 [vP (23, i0), vI x1, vI x2, vI y1, vI 1, vU] [] s8))
   else
    (sm_bI (C 199 [vP (23, i0), vI x1, vI x2] s6) sm_tw fun y15 s16 =>
    some (some (some (vI y15)), s16))) :=
  (sm_go_x (cd := cd_X13_token) rfl h_X13_token 400 0 _ _ _).trans rfl
set_option maxRecDepth 20000 in
theorem q_X13_token_52 (X : Nat × (Nat → Int32)) (C : sm_C) (i0 : Nat) (x1 : Int32) (x2 : Int32) (d3 : sm_V) (x4 : Int32) (d5 : sm_V) (s : sm_S) : sm_go (sm_ZZ X) sm_PP true C 197 52 [vP (23, i0), vI x1, vI x2, d3, vI x4, d5] [] s =
  sm_bI (C 190 [vP (23, i0), vI (x2 + x4)] s) sm_tw fun y1 s2 =>
  sm_bI (C 188 [vI y1] s2) sm_tw fun y3 s4 =>
  if y3 = 0 then
   (sm_bI (C 195 [vP (23, i0), vI x2, vI x4] s4) sm_tw fun y5 s6 =>
   sm_ix x1 803 fun z7 =>
   sm_ix x1 803 fun z8 =>
   if (lg_cmp ((sL s6 70 i0 z7 (Int32.toInt64 y5)).2.1 70 i0 z8) (-1)) = 0 then
    (sm_ix x1 803 fun z9 =>
    some (some (some (vI x4)), (sI (sL s6 70 i0 z7 (Int32.toInt64 y5)) 68 i0 z9 6)))
   else
    (sm_ix x1 803 fun z10 =>
    some (some (some (vI x4)), (sI (sL s6 70 i0 z7 (Int32.toInt64 y5)) 68 i0 z10 2))))
  else
   (sm_go (sm_ZZ X) sm_PP true C 197 52 [vP (23, i0), vI x1, vI x2, vU, vI (x4 + 1), vU] [] s4) :=
  (sm_go_x (cd := cd_X13_token) rfl h_X13_token 400 52 _ _ _).trans rfl
set_option maxRecDepth 20000 in
theorem q_X13_token_121 (X : Nat × (Nat → Int32)) (C : sm_C) (i0 : Nat) (x1 : Int32) (x2 : Int32) (d3 : sm_V) (x4 : Int32) (d5 : sm_V) (s : sm_S) : sm_go (sm_ZZ X) sm_PP true C 197 121 [vP (23, i0), vI x1, vI x2, d3, vI x4, d5] [] s =
  sm_bI (C 190 [vP (23, i0), vI (x2 + x4)] s) sm_tw fun y1 s2 =>
  sm_bI (C 189 [vI y1] s2) sm_tw fun y3 s4 =>
  if y3 = 0 then
   (sm_go (sm_ZZ X) sm_PP true C 197 144 [vP (23, i0), vI x1, vI x2, vU, vI x4, vI 0] [] s4)
  else
   (sm_go (sm_ZZ X) sm_PP true C 197 121 [vP (23, i0), vI x1, vI x2, vU, vI (x4 + 1), vU] [] s4) :=
  (sm_go_x (cd := cd_X13_token) rfl h_X13_token 400 121 _ _ _).trans rfl
set_option maxRecDepth 20000 in
theorem q_X13_token_144 (X : Nat × (Nat → Int32)) (C : sm_C) (i0 : Nat) (x1 : Int32) (x2 : Int32) (d3 : sm_V) (x4 : Int32) (x5 : Int32) (s : sm_S) : sm_go (sm_ZZ X) sm_PP true C 197 144 [vP (23, i0), vI x1, vI x2, d3, vI x4, vI x5] [] s =
  if x5 < x4 then
   (if x4 < 10 then
    (sm_ix x1 803 fun z1 =>
    sm_bI (C 190 [vP (23, i0), vI (x2 + x5)] s) sm_tw fun y2 s3 =>
    sm_ix x1 803 fun z4 =>
    sm_go (sm_ZZ X) sm_PP true C 197 144 [vP (23, i0), vI x1, vI x2, vU, vI x4, vI (x5 + 1)] [] (sL s3 70 i0 z4 (((10 * (s.2.1 70 i0 z1)) + (Int32.toInt64 y2)) - 48)))
   else
    (sm_go (sm_ZZ X) sm_PP true C 197 194 [vP (23, i0), vI x1, vI x2, vU, vI x4, vI x5] [] s))
  else
   (sm_go (sm_ZZ X) sm_PP true C 197 194 [vP (23, i0), vI x1, vI x2, vU, vI x4, vI x5] [] s) :=
  (sm_go_x (cd := cd_X13_token) rfl h_X13_token 400 144 _ _ _).trans rfl
set_option maxRecDepth 20000 in
theorem q_X13_token_194 (X : Nat × (Nat → Int32)) (C : sm_C) (i0 : Nat) (x1 : Int32) (x2 : Int32) (d3 : sm_V) (x4 : Int32) (d5 : sm_V) (s : sm_S) : sm_go (sm_ZZ X) sm_PP true C 197 194 [vP (23, i0), vI x1, vI x2, d3, vI x4, d5] [] s =
  if 9 < x4 then
   (sm_ix x1 803 fun z1 =>
   some (some (some (vI x4)), (sI s 68 i0 z1 6)))
  else
   (sm_bI (C 190 [vP (23, i0), vI (x2 + x4)] s) sm_tw fun y2 s3 =>
   sm_bI (C 187 [vI y2] s3) sm_tw fun y4 s5 =>
   if y4 = 0 then
    (sm_bI (C 190 [vP (23, i0), vI (x2 + x4)] s5) sm_tw fun y6 s7 =>
    sm_bI (C 188 [vI y6] s7) sm_tw fun y8 s9 =>
    if y8 = 0 then
     (sm_ix x1 803 fun z10 =>
     some (some (some (vI x4)), (sI s9 68 i0 z10 3)))
    else
     (sm_ix x1 803 fun z11 =>
     some (some (some (vI x4)), (sI s9 68 i0 z11 6))))
   else
    (sm_ix x1 803 fun z12 =>
    some (some (some (vI x4)), (sI s5 68 i0 z12 6)))) :=
  (sm_go_x (cd := cd_X13_token) rfl h_X13_token 400 194 _ _ _).trans rfl
set_option maxRecDepth 20000 in
theorem q_X13_token_288 (X : Nat × (Nat → Int32)) (C : sm_C) (i0 : Nat) (x1 : Int32) (d2 : sm_V) (x3 : Int32) (d4 : sm_V) (d5 : sm_V) (x100 : Int32) (s : sm_S) : sm_go (sm_ZZ X) sm_PP true C 197 288 [vP (23, i0), vI x1, d2, vI x3, d4, d5] [vI x100] s =
  if x100 = 0 then
   (sm_bI (C 198 [vI x3] s) sm_tw fun y1 s2 =>
   if y1 = 0 then
    (sm_ix x1 803 fun z3 =>
    if x100 = 0 then
     (some (some (some (vI 1)), (sI s2 68 i0 z3 6)))
    else
     (some (some (some (vI 2)), (sI s2 68 i0 z3 6))))
   else
    (if x100 = 0 then
     (some (some (some (vI 1)), s2))
    else
     (some (some (some (vI 2)), s2))))
  else
   (if x3 = 61 then
    (sm_ix x1 803 fun z4 =>
    if x100 = 0 then
     (some (some (some (vI 1)), (sL s 70 i0 z4 300)))
    else
     (some (some (some (vI 2)), (sL s 70 i0 z4 300))))
   else
    (sm_ix x1 803 fun z5 =>
    if x100 = 0 then
     (some (some (some (vI 1)), (sL s 70 i0 z5 301)))
    else
     (some (some (some (vI 2)), (sL s 70 i0 z5 301))))) :=
  (sm_go_x (cd := cd_X13_token) rfl h_X13_token 400 288 _ _ _).trans rfl
theorem h_X13_isSign : sm_chain 0 cd_X13_isSign = true := by decide +kernel
set_option maxRecDepth 20000 in
theorem q_X13_isSign_0 (X : Nat × (Nat → Int32)) (C : sm_C) (x0 : Int32) (s : sm_S) : sm_go (sm_ZZ X) sm_PP true C 198 0 [vI x0] [] s =
  if x0 = 40 then
   (some (some (some (vI 1)), s))
  else if x0 = 41 then
   (some (some (some (vI 1)), s))
  else if x0 = 42 then
   (some (some (some (vI 1)), s))
  else if x0 = 43 then
   (some (some (some (vI 1)), s))
  else if x0 = 44 then
   (some (some (some (vI 1)), s))
  else if x0 = 45 then
   (some (some (some (vI 1)), s))
  else if x0 = 46 then
   (some (some (some (vI 1)), s))
  else if x0 = 58 then
   (some (some (some (vI 1)), s))
  else if x0 = 59 then
   (some (some (some (vI 1)), s))
  else if x0 = 60 then
   (some (some (some (vI 1)), s))
  else if x0 = 61 then
   (some (some (some (vI 1)), s))
  else if x0 = 91 then
   (some (some (some (vI 1)), s))
  else if x0 = 93 then
   (some (some (some (vI 1)), s))
  else if x0 = 123 then
   (some (some (some (vI 1)), s))
  else if x0 = 125 then
   (some (some (some (vI 1)), s))
  else (some (some (some (vI 0)), s)) :=
  (sm_go_x (cd := cd_X13_isSign) rfl h_X13_isSign 400 0 _ _ _).trans rfl
theorem h_X13_name : sm_chain 0 cd_X13_name = true := by decide +kernel
set_option maxRecDepth 20000 in
theorem q_X13_name_0 (X : Nat × (Nat → Int32)) (C : sm_C) (i0 : Nat) (x1 : Int32) (x2 : Int32) (s : sm_S) : sm_go (sm_ZZ X) sm_PP true C 199 0 [vP (23, i0), vI x1, vI x2, vU, vU, vU, vU] [] s =
  sm_go (sm_ZZ X) sm_PP true C 199 5 [vP (23, i0), vI x1, vI x2, vI 0, vL 0, vU, vU] [] s :=
  (sm_go_x (cd := cd_X13_name) rfl h_X13_name 400 0 _ _ _).trans rfl
set_option maxRecDepth 20000 in
theorem q_X13_name_5 (X : Nat × (Nat → Int32)) (C : sm_C) (i0 : Nat) (x1 : Int32) (x2 : Int32) (x3 : Int32) (x4 : Int64) (d5 : sm_V) (d6 : sm_V) (s : sm_S) : sm_go (sm_ZZ X) sm_PP true C 199 5 [vP (23, i0), vI x1, vI x2, vI x3, vL x4, d5, d6] [] s =
  sm_bI (C 190 [vP (23, i0), vI (x2 + x3)] s) sm_tw fun y1 s2 =>
  sm_bI (C 187 [vI y1] s2) sm_tw fun y3 s4 =>
  if y3 = 0 then
   (sm_bI (C 190 [vP (23, i0), vI (x2 + x3)] s4) sm_tw fun y5 s6 =>
   sm_bI (C 189 [vI y5] s6) sm_tw fun y7 s8 =>
   if y7 = 0 then
    (if x3 < 9 then
     (sm_bI (C 192 [vL x4] s8) sm_tw fun y9 s10 =>
     sm_go (sm_ZZ X) sm_PP true C 199 68 [vP (23, i0), vI x1, vI x2, vI x3, vL x4, vU, vU] [vI y9] s10)
    else
     (sm_go (sm_ZZ X) sm_PP true C 199 68 [vP (23, i0), vI x1, vI x2, vI x3, vL x4, vU, vU] [vI (-1)] s8))
   else
    (sm_go (sm_ZZ X) sm_PP true C 199 31 [vP (23, i0), vI x1, vI x2, vI x3, vL x4, vU, vU] [] s8))
  else
   (sm_go (sm_ZZ X) sm_PP true C 199 31 [vP (23, i0), vI x1, vI x2, vI x3, vL x4, vU, vU] [] s4) :=
  (sm_go_x (cd := cd_X13_name) rfl h_X13_name 400 5 _ _ _).trans rfl
set_option maxRecDepth 20000 in
theorem q_X13_name_31 (X : Nat × (Nat → Int32)) (C : sm_C) (i0 : Nat) (x1 : Int32) (x2 : Int32) (x3 : Int32) (x4 : Int64) (d5 : sm_V) (d6 : sm_V) (s : sm_S) : sm_go (sm_ZZ X) sm_PP true C 199 31 [vP (23, i0), vI x1, vI x2, vI x3, vL x4, d5, d6] [] s =
  sm_bI (C 190 [vP (23, i0), vI (x2 + x3)] s) sm_tw fun y1 s2 =>
  sm_go (sm_ZZ X) sm_PP true C 199 5 [vP (23, i0), vI x1, vI x2, vI (x3 + 1), vL ((x4 <<< ((8 : Int32).toInt64 &&& 63)) ||| (Int32.toInt64 y1)), vU, vU] [] s2 :=
  (sm_go_x (cd := cd_X13_name) rfl h_X13_name 400 31 _ _ _).trans rfl
set_option maxRecDepth 20000 in
theorem q_X13_name_68 (X : Nat × (Nat → Int32)) (C : sm_C) (i0 : Nat) (x1 : Int32) (d2 : sm_V) (x3 : Int32) (x4 : Int64) (d5 : sm_V) (d6 : sm_V) (x100 : Int32) (s : sm_S) : sm_go (sm_ZZ X) sm_PP true C 199 68 [vP (23, i0), vI x1, d2, vI x3, vL x4, d5, d6] [vI x100] s =
  if 8 < x3 then
   (sm_go (sm_ZZ X) sm_PP true C 199 97 [vP (23, i0), vI x1, vU, vI x3, vL x4, vU, vI x100] [vI 6, vI x1, vP (68, i0)] s)
  else
   (if x100 = (-1) then
    (sm_go (sm_ZZ X) sm_PP true C 199 97 [vP (23, i0), vI x1, vU, vI x3, vL x4, vU, vI x100] [vI 1, vI x1, vP (68, i0)] s)
   else
    (sm_go (sm_ZZ X) sm_PP true C 199 97 [vP (23, i0), vI x1, vU, vI x3, vL x4, vU, vI x100] [vI 5, vI x1, vP (68, i0)] s)) :=
  (sm_go_x (cd := cd_X13_name) rfl h_X13_name 400 68 _ _ _).trans rfl
set_option maxRecDepth 20000 in
theorem q_X13_name_97 (X : Nat × (Nat → Int32)) (C : sm_C) (i0 : Nat) (x1 : Int32) (d2 : sm_V) (x3 : Int32) (x4 : Int64) (d5 : sm_V) (x6 : Int32) (q100 : Nat × Nat) (x101 : Int32) (x102 : Int32) (s : sm_S) : sm_go (sm_ZZ X) sm_PP true C 199 97 [vP (23, i0), vI x1, d2, vI x3, vL x4, d5, vI x6] [vI x102, vI x101, vP q100] s =
  sm_rq q100 68 fun j1 =>
  sm_ix x101 803 fun z2 =>
  if x6 = (-1) then
   (sm_ix x1 803 fun z3 =>
   some (some (some (vI x3)), (sL (sI s 68 j1 z2 x102) 70 i0 z3 x4)))
  else
   (sm_ix x1 803 fun z4 =>
   some (some (some (vI x3)), (sL (sI s 68 j1 z2 x102) 70 i0 z4 (Int32.toInt64 x6)))) :=
  (sm_go_x (cd := cd_X13_name) rfl h_X13_name 400 97 _ _ _).trans rfl
theorem h_X13_fails : sm_chain 0 cd_X13_fails = true := by decide +kernel
set_option maxRecDepth 20000 in
theorem q_X13_fails_0 (X : Nat × (Nat → Int32)) (C : sm_C) (i0 : Nat) (x1 : Int32) (x2 : Int32) (s : sm_S) : sm_go (sm_ZZ X) sm_PP true C 200 0 [vP (23, i0), vI x1, vI x2] [] s =
  sm_ix x2 803 fun z1 =>
  some (some (some (vP (24, i0))), (sI (sI s 23 i0 9 x1) 23 i0 10 ((sI s 23 i0 9 x1).1 69 i0 z1))) :=
  (sm_go_x (cd := cd_X13_fails) rfl h_X13_fails 400 0 _ _ _).trans rfl
theorem h_X13_form : sm_chain 0 cd_X13_form = true := by decide +kernel
set_option maxRecDepth 20000 in
theorem q_X13_form_0 (X : Nat × (Nat → Int32)) (C : sm_C) (i0 : Nat) (x1 : Int32) (s : sm_S) : sm_go (sm_ZZ X) sm_PP true C 201 0 [vP (23, i0), vI x1] [] s =
  if x1 = 0 then
   (sm_bP (C 200 [vP (23, i0), vI 1, vI (s.1 23 i0 11)] s) sm_tw fun y1 s2 =>
   sm_rq y1 24 fun _ => sm_tw s2)
  else
   (some (some none, s)) :=
  (sm_go_x (cd := cd_X13_form) rfl h_X13_form 400 0 _ _ _).trans rfl
theorem h_X13_types : sm_chain 0 cd_X13_types = true := by decide +kernel
set_option maxRecDepth 20000 in
theorem q_X13_types_0 (X : Nat × (Nat → Int32)) (C : sm_C) (i0 : Nat) (x1 : Int32) (x2 : Int32) (s : sm_S) : sm_go (sm_ZZ X) sm_PP true C 202 0 [vP (23, i0), vI x1, vI x2] [] s =
  if x1 = 0 then
   (sm_bP (C 200 [vP (23, i0), vI 4, vI x2] s) sm_tw fun y1 s2 =>
   sm_rq y1 24 fun _ => sm_tw s2)
  else
   (some (some none, s)) :=
  (sm_go_x (cd := cd_X13_types) rfl h_X13_types 400 0 _ _ _).trans rfl
theorem h_X13_next : sm_chain 0 cd_X13_next = true := by decide +kernel
set_option maxRecDepth 20000 in
theorem q_X13_next_0 (X : Nat × (Nat → Int32)) (C : sm_C) (i0 : Nat) (s : sm_S) : sm_go (sm_ZZ X) sm_PP true C 203 0 [vP (23, i0)] [] s =
  if (s.1 23 i0 11) = 800 then
   (sm_bP (C 200 [vP (23, i0), vI 5, vI (s.1 23 i0 11)] s) sm_tw fun y1 s2 =>
   sm_rq y1 24 fun _ => sm_tw s2)
  else
   (some (some none, (sI s 23 i0 11 ((s.1 23 i0 11) + 1)))) :=
  (sm_go_x (cd := cd_X13_next) rfl h_X13_next 400 0 _ _ _).trans rfl
theorem h_X13_is : sm_chain 0 cd_X13_is = true := by decide +kernel
set_option maxRecDepth 20000 in
theorem q_X13_is_0 (X : Nat × (Nat → Int32)) (C : sm_C) (i0 : Nat) (x1 : Int32) (s : sm_S) : sm_go (sm_ZZ X) sm_PP true C 204 0 [vP (23, i0), vI x1] [] s =
  sm_ix (s.1 23 i0 11) 803 fun z1 =>
  if (s.1 68 i0 z1) = 4 then
   (sm_ix (s.1 23 i0 11) 803 fun z2 =>
   if (lg_cmp (s.2.1 70 i0 z2) (Int32.toInt64 x1)) = 0 then
    (some (some (some (vI 1)), s))
   else
    (some (some (some (vI 0)), s)))
  else
   (some (some (some (vI 0)), s)) :=
  (sm_go_x (cd := cd_X13_is) rfl h_X13_is 400 0 _ _ _).trans rfl
theorem h_X13_isWord : sm_chain 0 cd_X13_isWord = true := by decide +kernel
set_option maxRecDepth 20000 in
theorem q_X13_isWord_0 (X : Nat × (Nat → Int32)) (C : sm_C) (i0 : Nat) (x1 : Int32) (s : sm_S) : sm_go (sm_ZZ X) sm_PP true C 205 0 [vP (23, i0), vI x1] [] s =
  sm_ix (s.1 23 i0 11) 803 fun z1 =>
  if (s.1 68 i0 z1) = 5 then
   (sm_ix (s.1 23 i0 11) 803 fun z2 =>
   if (lg_cmp (s.2.1 70 i0 z2) (Int32.toInt64 x1)) = 0 then
    (some (some (some (vI 1)), s))
   else
    (some (some (some (vI 0)), s)))
  else
   (some (some (some (vI 0)), s)) :=
  (sm_go_x (cd := cd_X13_isWord) rfl h_X13_isWord 400 0 _ _ _).trans rfl
theorem h_X13_must : sm_chain 0 cd_X13_must = true := by decide +kernel
set_option maxRecDepth 20000 in
theorem q_X13_must_0 (X : Nat × (Nat → Int32)) (C : sm_C) (i0 : Nat) (x1 : Int32) (s : sm_S) : sm_go (sm_ZZ X) sm_PP true C 206 0 [vP (23, i0), vI x1] [] s =
  sm_bI (C 204 [vP (23, i0), vI x1] s) sm_tw fun y1 s2 =>
  sm_bV (C 201 [vP (23, i0), vI y1] s2) sm_tw fun s4 =>
  sm_bV (C 203 [vP (23, i0)] s4) sm_tw fun s6 =>
  some (some none, s6) :=
  (sm_go_x (cd := cd_X13_must) rfl h_X13_must 400 0 _ _ _).trans rfl
theorem h_X13_put : sm_chain 0 cd_X13_put = true := by decide +kernel
set_option maxRecDepth 20000 in
theorem q_X13_put_0 (X : Nat × (Nat → Int32)) (C : sm_C) (i0 : Nat) (x1 : Int32) (x2 : Int32) (x3 : Int32) (s : sm_S) : sm_go (sm_ZZ X) sm_PP true C 207 0 [vP (23, i0), vI x1, vI x2, vI x3, vU] [] s =
  sm_rq (s.2.2.1 23 i0 7) 22 fun j1 =>
  sm_rq (s.2.2.1 23 i0 7) 22 fun j2 =>
  sm_ix (s.1 22 j1 6) 4000 fun z3 =>
  sm_rq ((sI s 63 j2 z3 x1).2.2.1 23 i0 7) 22 fun j4 =>
  sm_ix (s.1 22 j1 6) 4000 fun z5 =>
  sm_rq ((sI (sI s 63 j2 z3 x1) 64 j4 z5 x2).2.2.1 23 i0 7) 22 fun j6 =>
  sm_ix (s.1 22 j1 6) 4000 fun z7 =>
  sm_rq ((sI (sI (sI s 63 j2 z3 x1) 64 j4 z5 x2) 65 j6 z7 0).2.2.1 23 i0 7) 22 fun j8 =>
  if x3 < 0 then
   (sm_go (sm_ZZ X) sm_PP true C 207 65 [vP (23, i0), vI x1, vI x2, vI x3, vI (s.1 22 j1 6)] [vI (-1), vI (s.1 22 j1 6), vP (66, j8)] (sI (sI (sI s 63 j2 z3 x1) 64 j4 z5 x2) 65 j6 z7 0))
  else
   (sm_ix x3 803 fun z9 =>
   sm_go (sm_ZZ X) sm_PP true C 207 65 [vP (23, i0), vI x1, vI x2, vI x3, vI (s.1 22 j1 6)] [vI ((sI (sI (sI s 63 j2 z3 x1) 64 j4 z5 x2) 65 j6 z7 0).1 69 i0 z9), vI (s.1 22 j1 6), vP (66, j8)] (sI (sI (sI s 63 j2 z3 x1) 64 j4 z5 x2) 65 j6 z7 0)) :=
  (sm_go_x (cd := cd_X13_put) rfl h_X13_put 400 0 _ _ _).trans rfl
set_option maxRecDepth 20000 in
theorem q_X13_put_65 (X : Nat × (Nat → Int32)) (C : sm_C) (i0 : Nat) (d1 : sm_V) (d2 : sm_V) (d3 : sm_V) (x4 : Int32) (q100 : Nat × Nat) (x101 : Int32) (x102 : Int32) (s : sm_S) : sm_go (sm_ZZ X) sm_PP true C 207 65 [vP (23, i0), d1, d2, d3, vI x4] [vI x102, vI x101, vP q100] s =
  sm_rq q100 66 fun j1 =>
  sm_ix x101 4000 fun z2 =>
  sm_rq ((sI s 66 j1 z2 x102).2.2.1 23 i0 7) 22 fun j3 =>
  sm_rq ((sI s 66 j1 z2 x102).2.2.1 23 i0 7) 22 fun j4 =>
  some (some (some (vI x4)), (sI (sI s 66 j1 z2 x102) 22 j4 6 (((sI s 66 j1 z2 x102).1 22 j3 6) + 1))) :=
  (sm_go_x (cd := cd_X13_put) rfl h_X13_put 400 65 _ _ _).trans rfl
theorem h_X13_text : sm_chain 0 cd_X13_text = true := by decide +kernel
set_option maxRecDepth 20000 in
theorem q_X13_text_0 (X : Nat × (Nat → Int32)) (C : sm_C) (i0 : Nat) (s : sm_S) : sm_go (sm_ZZ X) sm_PP true C 208 0 [vP (23, i0)] [] s =
  sm_rq (s.2.2.1 23 i0 7) 22 fun j1 =>
  sm_rq ((sI s 22 j1 0 0).2.2.1 23 i0 7) 22 fun j2 =>
  sm_go (sm_ZZ X) sm_PP true C 208 21 [vP (23, i0)] [] (sI (sI (sI s 22 j1 0 0) 22 j2 6 0) 23 i0 11 0) :=
  (sm_go_x (cd := cd_X13_text) rfl h_X13_text 400 0 _ _ _).trans rfl
set_option maxRecDepth 20000 in
theorem q_X13_text_21 (X : Nat × (Nat → Int32)) (C : sm_C) (i0 : Nat) (s : sm_S) : sm_go (sm_ZZ X) sm_PP true C 208 21 [vP (23, i0)] [] s =
  sm_bV (C 211 [vP (23, i0)] s) sm_tw fun s2 =>
  sm_ix (s2.1 23 i0 11) 803 fun z3 =>
  if (s2.1 68 i0 z3) = 7 then
   (some (some none, s2))
  else
   (sm_go (sm_ZZ X) sm_PP true C 208 21 [vP (23, i0)] [] s2) :=
  (sm_go_x (cd := cd_X13_text) rfl h_X13_text 400 21 _ _ _).trans rfl
theorem h_X13_five : sm_chain 0 cd_X13_five = true := by decide +kernel
set_option maxRecDepth 20000 in
theorem q_X13_five_0 (X : Nat × (Nat → Int32)) (C : sm_C) (x0 : Int64) (s : sm_S) : sm_go (sm_ZZ X) sm_PP true C 209 0 [vL x0, vU] [] s =
  sm_bL (C 191 [vP (5, 40)] s) sm_tw fun y1 s2 =>
  if (lg_cmp x0 y1) = 0 then
   (some (some (some (vI 12)), s2))
  else
   (sm_bL (C 191 [vP (5, 41)] s2) sm_tw fun y3 s4 =>
   if (lg_cmp x0 y3) = 0 then
    (some (some (some (vI 13)), s4))
   else
    (sm_bL (C 191 [vP (5, 42)] s4) sm_tw fun y5 s6 =>
    if (lg_cmp x0 y5) = 0 then
     (some (some (some (vI 14)), s6))
    else
     (sm_bL (C 191 [vP (5, 43)] s6) sm_tw fun y7 s8 =>
     if (lg_cmp x0 y7) = 0 then
      (some (some (some (vI 15)), s8))
     else
      (sm_bL (C 191 [vP (5, 44)] s8) sm_tw fun y9 s10 =>
      if (lg_cmp x0 y9) = 0 then
       (some (some (some (vI 16)), s10))
      else
       (some (some (some (vI (-1))), s10)))))) :=
  (sm_go_x (cd := cd_X13_five) rfl h_X13_five 400 0 _ _ _).trans rfl
theorem h_X13_procOf : sm_chain 0 cd_X13_procOf = true := by decide +kernel
set_option maxRecDepth 20000 in
theorem q_X13_procOf_0 (X : Nat × (Nat → Int32)) (C : sm_C) (i0 : Nat) (x1 : Int64) (s : sm_S) : sm_go (sm_ZZ X) sm_PP true C 210 0 [vP (23, i0), vL x1, vU, vU] [] s =
  sm_go (sm_ZZ X) sm_PP true C 210 2 [vP (23, i0), vL x1, vU, vI 0] [] s :=
  (sm_go_x (cd := cd_X13_procOf) rfl h_X13_procOf 400 0 _ _ _).trans rfl
set_option maxRecDepth 20000 in
theorem q_X13_procOf_2 (X : Nat × (Nat → Int32)) (C : sm_C) (i0 : Nat) (x1 : Int64) (d2 : sm_V) (x3 : Int32) (s : sm_S) : sm_go (sm_ZZ X) sm_PP true C 210 2 [vP (23, i0), vL x1, d2, vI x3] [] s =
  sm_rq (s.2.2.1 23 i0 7) 22 fun j1 =>
  if x3 < (s.1 22 j1 0) then
   (sm_rq (s.2.2.1 23 i0 7) 22 fun j2 =>
   sm_ix x3 12 fun z3 =>
   if (lg_cmp (s.2.1 58 j2 z3) x1) = 0 then
    (some (some (some (vI x3)), s))
   else
    (sm_go (sm_ZZ X) sm_PP true C 210 2 [vP (23, i0), vL x1, vU, vI (x3 + 1)] [] s))
  else
   (sm_bI (C 209 [vL x1] s) sm_tw fun y4 s5 =>
   some (some (some (vI y4)), s5)) :=
  (sm_go_x (cd := cd_X13_procOf) rfl h_X13_procOf 400 2 _ _ _).trans rfl
theorem h_X13_proc : sm_chain 0 cd_X13_proc = true := by decide +kernel
set_option maxRecDepth 20000 in
theorem q_X13_proc_0 (X : Nat × (Nat → Int32)) (C : sm_C) (i0 : Nat) (s : sm_S) : sm_go (sm_ZZ X) sm_PP true C 211 0 [vP (23, i0)] [] s =
  sm_bI (C 205 [vP (23, i0), vI 0] s) sm_tw fun y1 s2 =>
  sm_bV (C 201 [vP (23, i0), vI y1] s2) sm_tw fun s4 =>
  sm_bV (C 203 [vP (23, i0)] s4) sm_tw fun s6 =>
  sm_ix (s6.1 23 i0 11) 803 fun z7 =>
  if (s6.1 68 i0 z7) = 1 then
   (sm_go (sm_ZZ X) sm_PP true C 211 32 [vP (23, i0)] [vI 1, vP (23, i0)] s6)
  else
   (sm_go (sm_ZZ X) sm_PP true C 211 32 [vP (23, i0)] [vI 0, vP (23, i0)] s6) :=
  (sm_go_x (cd := cd_X13_proc) rfl h_X13_proc 400 0 _ _ _).trans rfl
set_option maxRecDepth 20000 in
theorem q_X13_proc_32 (X : Nat × (Nat → Int32)) (C : sm_C) (i0 : Nat) (q100 : Nat × Nat) (x101 : Int32) (s : sm_S) : sm_go (sm_ZZ X) sm_PP true C 211 32 [vP (23, i0)] [vI x101, vP q100] s =
  if q100.1 = 23 then
   (sm_bV (C 201 [vP q100, vI x101] s) sm_tw fun s2 =>
  sm_ix (s2.1 23 i0 11) 803 fun z3 =>
  sm_bI (C 210 [vP (23, i0), vL (s2.2.1 70 i0 z3)] s2) sm_tw fun y4 s5 =>
  if y4 = (-1) then
   (sm_rq (s5.2.2.1 23 i0 7) 22 fun j6 =>
   if (s5.1 22 j6 0) = 12 then
    (sm_bP (C 200 [vP (23, i0), vI 5, vI (s5.1 23 i0 11)] s5) sm_tw fun y7 s8 =>
    sm_rq y7 24 fun _ => sm_tw s8)
   else
    (sm_rq (s5.2.2.1 23 i0 7) 22 fun j9 =>
    sm_rq ((sI s5 23 i0 12 (s5.1 22 j9 0)).2.2.1 23 i0 7) 22 fun j10 =>
    sm_ix ((sI s5 23 i0 12 (s5.1 22 j9 0)).1 23 i0 11) 803 fun z11 =>
    sm_ix ((sI s5 23 i0 12 (s5.1 22 j9 0)).1 23 i0 12) 12 fun z12 =>
    sm_rq ((sL (sI s5 23 i0 12 (s5.1 22 j9 0)) 58 j10 z12 ((sI s5 23 i0 12 (s5.1 22 j9 0)).2.1 70 i0 z11)).2.2.1 23 i0 7) 22 fun j13 =>
    sm_ix ((sL (sI s5 23 i0 12 (s5.1 22 j9 0)) 58 j10 z12 ((sI s5 23 i0 12 (s5.1 22 j9 0)).2.1 70 i0 z11)).1 23 i0 12) 12 fun z14 =>
    sm_rq ((sI (sL (sI s5 23 i0 12 (s5.1 22 j9 0)) 58 j10 z12 ((sI s5 23 i0 12 (s5.1 22 j9 0)).2.1 70 i0 z11)) 60 j13 z14 0).2.2.1 23 i0 7) 22 fun j15 =>
    sm_ix ((sI (sL (sI s5 23 i0 12 (s5.1 22 j9 0)) 58 j10 z12 ((sI s5 23 i0 12 (s5.1 22 j9 0)).2.1 70 i0 z11)) 60 j13 z14 0).1 23 i0 12) 12 fun z16 =>
    sm_rq ((sI (sI (sL (sI s5 23 i0 12 (s5.1 22 j9 0)) 58 j10 z12 ((sI s5 23 i0 12 (s5.1 22 j9 0)).2.1 70 i0 z11)) 60 j13 z14 0) 59 j15 z16 38).2.2.1 23 i0 7) 22 fun j17 =>
    sm_rq ((sI (sI (sL (sI s5 23 i0 12 (s5.1 22 j9 0)) 58 j10 z12 ((sI s5 23 i0 12 (s5.1 22 j9 0)).2.1 70 i0 z11)) 60 j13 z14 0) 59 j15 z16 38).2.2.1 23 i0 7) 22 fun j18 =>
    sm_bV (C 203 [vP (23, i0)] (sI (sI (sI (sL (sI s5 23 i0 12 (s5.1 22 j9 0)) 58 j10 z12 ((sI s5 23 i0 12 (s5.1 22 j9 0)).2.1 70 i0 z11)) 60 j13 z14 0) 59 j15 z16 38) 22 j18 0 (((sI (sI (sL (sI s5 23 i0 12 (s5.1 22 j9 0)) 58 j10 z12 ((sI s5 23 i0 12 (s5.1 22 j9 0)).2.1 70 i0 z11)) 60 j13 z14 0) 59 j15 z16 38).1 22 j17 0) + 1))) sm_tw fun s20 =>
    sm_bV (C 206 [vP (23, i0), vI 40] (sI (sI (sI s20 23 i0 16 0) 23 i0 15 0) 23 i0 14 0)) sm_tw fun s22 =>
    sm_bI (C 204 [vP (23, i0), vI 41] s22) sm_tw fun y23 s24 =>
    if y23 = 0 then
     (sm_bV (C 212 [vP (23, i0)] s24) sm_tw fun s26 =>
     sm_go (sm_ZZ X) sm_PP true C 211 194 [vP (23, i0)] [] s26)
    else
     (sm_go (sm_ZZ X) sm_PP true C 211 194 [vP (23, i0)] [] s24)))
  else
   (sm_bP (C 200 [vP (23, i0), vI 3, vI (s5.1 23 i0 11)] s5) sm_tw fun y27 s28 =>
   sm_rq y27 24 fun _ => sm_tw s28))
  else none :=
  (sm_go_x (cd := cd_X13_proc) rfl h_X13_proc 400 32 _ _ _).trans rfl
set_option maxRecDepth 20000 in
theorem q_X13_proc_194 (X : Nat × (Nat → Int32)) (C : sm_C) (i0 : Nat) (s : sm_S) : sm_go (sm_ZZ X) sm_PP true C 211 194 [vP (23, i0)] [] s =
  sm_bV (C 206 [vP (23, i0), vI 41] s) sm_tw fun s2 =>
  sm_bI (C 204 [vP (23, i0), vI 58] s2) sm_tw fun y3 s4 =>
  if y3 = 0 then
   (sm_go (sm_ZZ X) sm_PP true C 211 229 [vP (23, i0)] [] s4)
  else
   (sm_bV (C 203 [vP (23, i0)] s4) sm_tw fun s6 =>
   sm_rq (s6.2.2.1 23 i0 7) 22 fun j7 =>
   sm_bI (C 216 [vP (23, i0)] s6) sm_tw fun y8 s9 =>
   sm_ix (s6.1 23 i0 12) 12 fun z10 =>
   sm_go (sm_ZZ X) sm_PP true C 211 229 [vP (23, i0)] [] (sI s9 59 j7 z10 y8)) :=
  (sm_go_x (cd := cd_X13_proc) rfl h_X13_proc 400 194 _ _ _).trans rfl
set_option maxRecDepth 20000 in
theorem q_X13_proc_229 (X : Nat × (Nat → Int32)) (C : sm_C) (i0 : Nat) (s : sm_S) : sm_go (sm_ZZ X) sm_PP true C 211 229 [vP (23, i0)] [] s =
  sm_rq (s.2.2.1 23 i0 7) 22 fun j1 =>
  sm_rq (s.2.2.1 23 i0 7) 22 fun j2 =>
  sm_ix (s.1 23 i0 12) 12 fun z3 =>
  sm_bV (C 217 [vP (23, i0)] (sI s 62 j1 z3 (s.1 22 j2 6))) sm_tw fun s5 =>
  sm_bI (C 207 [vP (23, i0), vI 29, vI 0, vI (-1)] s5) sm_tw fun y6 s7 =>
  some (some none, s7) :=
  (sm_go_x (cd := cd_X13_proc) rfl h_X13_proc 400 229 _ _ _).trans rfl
theorem h_X13_params : sm_chain 0 cd_X13_params = true := by decide +kernel
set_option maxRecDepth 20000 in
theorem q_X13_params_0 (X : Nat × (Nat → Int32)) (C : sm_C) (i0 : Nat) (s : sm_S) : sm_go (sm_ZZ X) sm_PP true C 212 0 [vP (23, i0), vU, vU] [] s =
  sm_go (sm_ZZ X) sm_PP true C 212 2 [vP (23, i0), vI 1, vU] [] s :=
  (sm_go_x (cd := cd_X13_params) rfl h_X13_params 400 0 _ _ _).trans rfl
set_option maxRecDepth 20000 in
theorem q_X13_params_2 (X : Nat × (Nat → Int32)) (C : sm_C) (i0 : Nat) (x1 : Int32) (d2 : sm_V) (s : sm_S) : sm_go (sm_ZZ X) sm_PP true C 212 2 [vP (23, i0), vI x1, d2] [] s =
  if x1 = 0 then
   (some (some none, s))
  else
   (sm_bI (C 216 [vP (23, i0)] s) sm_tw fun y1 s2 =>
   sm_ix (s2.1 23 i0 11) 803 fun z3 =>
   if (s2.1 68 i0 z3) = 1 then
    (sm_go (sm_ZZ X) sm_PP true C 212 30 [vP (23, i0), vI x1, vI y1] [vI 1, vP (23, i0)] s2)
   else
    (sm_go (sm_ZZ X) sm_PP true C 212 30 [vP (23, i0), vI x1, vI y1] [vI 0, vP (23, i0)] s2)) :=
  (sm_go_x (cd := cd_X13_params) rfl h_X13_params 400 2 _ _ _).trans rfl
set_option maxRecDepth 20000 in
theorem q_X13_params_30 (X : Nat × (Nat → Int32)) (C : sm_C) (i0 : Nat) (d1 : sm_V) (x2 : Int32) (q100 : Nat × Nat) (x101 : Int32) (s : sm_S) : sm_go (sm_ZZ X) sm_PP true C 212 30 [vP (23, i0), d1, vI x2] [vI x101, vP q100] s =
  if q100.1 = 23 then
   (sm_bV (C 201 [vP q100, vI x101] s) sm_tw fun s2 =>
  sm_ix (s2.1 23 i0 11) 803 fun z3 =>
  sm_bI (C 213 [vP (23, i0), vL (s2.2.1 70 i0 z3)] s2) sm_tw fun y4 s5 =>
  if y4 = (-1) then
   (sm_rq (s5.2.2.1 23 i0 7) 22 fun j6 =>
   sm_ix (s5.1 23 i0 12) 12 fun z7 =>
   if (s5.1 60 j6 z7) = 4 then
    (sm_bP (C 200 [vP (23, i0), vI 5, vI (s5.1 23 i0 11)] s5) sm_tw fun y8 s9 =>
    sm_rq y8 24 fun _ => sm_tw s9)
   else
    (sm_rq (s5.2.2.1 23 i0 7) 22 fun j10 =>
    sm_rq (s5.2.2.1 23 i0 7) 22 fun j11 =>
    sm_ix (s5.1 23 i0 12) 12 fun z12 =>
    sm_ix ((4 * (s5.1 23 i0 12)) + (s5.1 60 j11 z12)) 48 fun z13 =>
    sm_rq ((sI s5 61 j10 z13 x2).2.2.1 23 i0 7) 22 fun j14 =>
    sm_ix ((sI s5 61 j10 z13 x2).1 23 i0 12) 12 fun z15 =>
    sm_ix ((sI s5 61 j10 z13 x2).1 23 i0 12) 12 fun z16 =>
    sm_ix ((sI (sI s5 61 j10 z13 x2) 60 j14 z16 (((sI s5 61 j10 z13 x2).1 60 j14 z15) + 1)).1 23 i0 11) 803 fun z17 =>
    sm_bV (C 214 [vP (23, i0), vL ((sI (sI s5 61 j10 z13 x2) 60 j14 z16 (((sI s5 61 j10 z13 x2).1 60 j14 z15) + 1)).2.1 70 i0 z17), vI x2] (sI (sI s5 61 j10 z13 x2) 60 j14 z16 (((sI s5 61 j10 z13 x2).1 60 j14 z15) + 1))) sm_tw fun s19 =>
    sm_bV (C 203 [vP (23, i0)] s19) sm_tw fun s21 =>
    sm_bI (C 204 [vP (23, i0), vI 44] s21) sm_tw fun y22 s23 =>
    if y22 = 0 then
     (sm_go (sm_ZZ X) sm_PP true C 212 2 [vP (23, i0), vI y22, vI x2] [] s23)
    else
     (sm_bV (C 203 [vP (23, i0)] s23) sm_tw fun s25 =>
     sm_go (sm_ZZ X) sm_PP true C 212 2 [vP (23, i0), vI y22, vI x2] [] s25)))
  else
   (sm_bP (C 200 [vP (23, i0), vI 3, vI (s5.1 23 i0 11)] s5) sm_tw fun y26 s27 =>
   sm_rq y26 24 fun _ => sm_tw s27))
  else none :=
  (sm_go_x (cd := cd_X13_params) rfl h_X13_params 400 30 _ _ _).trans rfl
end
