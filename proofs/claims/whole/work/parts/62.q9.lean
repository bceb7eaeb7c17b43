section
theorem h_X13_count : sm_chain 0 cd_X13_count = true := by decide +kernel
set_option maxRecDepth 20000 in
theorem q_X13_count_0 (X : Nat × (Nat → Int32)) (C : sm_C) (i0 : Nat) (x1 : Int32) (s : sm_S) : sm_go (sm_ZZ X) sm_PP true C 293 0 [vP (23, i0), vI x1] [] s =
  if x1 = 0 then
   (sm_rq (s.2.2.1 23 i0 6) 22 fun j1 =>
   some (some (some (vI (s.1 22 j1 0))), s))
  else if x1 = 1 then
   (some (some (some (vI (s.1 23 i0 24))), s))
  else if x1 = 2 then
   (some (some (some (vI (s.1 23 i0 25))), s))
  else if x1 = 3 then
   (some (some (some (vI (s.1 23 i0 26))), s))
  else if x1 = 4 then
   (some (some (some (vI (s.1 23 i0 60))), s))
  else if x1 = 5 then
   (some (some (some (vI (s.1 23 i0 61))), s))
  else if x1 = 6 then
   (some (some (some (vI (s.1 23 i0 27))), s))
  else if x1 = 7 then
   (some (some (some (vI (s.1 23 i0 28))), s))
  else if x1 = 8 then
   (some (some (some (vI (s.1 23 i0 1))), s))
  else (some (some (some (vI (-1))), s)) :=
  (sm_go_x (cd := cd_X13_count) rfl h_X13_count 400 0 _ _ _).trans rfl
theorem h_J0_length_8abf5 : sm_chain 0 cd_J0_length_8abf5 = true := by decide +kernel
set_option maxRecDepth 20000 in
theorem q_J0_length_8abf5_0 (X : Nat × (Nat → Int32)) (C : sm_C) (i0 : Nat) (s : sm_S) : sm_go (sm_ZZ X) sm_PP true C 294 0 [vP (5, i0)] [] s =
  sm_bI (C 298 [vP (5, i0)] s) sm_tw fun y1 s2 =>
  some (some (some (vI ((Int32.ofNat (sm_by i0).length) >>> (y1 &&& 31)))), s2) :=
  (sm_go_x (cd := cd_J0_length_8abf5) rfl h_J0_length_8abf5 400 0 _ _ _).trans rfl
theorem h_J0_charAt_5068e : sm_chain 0 cd_J0_charAt_5068e = true := by decide +kernel
set_option maxRecDepth 20000 in
theorem q_J0_charAt_5068e_0 (X : Nat × (Nat → Int32)) (C : sm_C) (i0 : Nat) (x1 : Int32) (s : sm_S) : sm_go (sm_ZZ X) sm_PP true C 295 0 [vP (5, i0), vI x1] [] s =
  sm_bI (C 299 [vP (5, i0)] s) sm_tw fun y1 s2 =>
  if y1 = 0 then
   (sm_bI (C 9999 [vP (7, i0), vI x1] s2) sm_tw fun y3 s4 =>
   sm_rt 2 y3 s4)
  else
   (sm_bI (C 301 [vP (7, i0), vI x1] s2) sm_tw fun y5 s6 =>
   sm_rt 2 y5 s6) :=
  (sm_go_x (cd := cd_J0_charAt_5068e) rfl h_J0_charAt_5068e 400 0 _ _ _).trans rfl
theorem h_J0_indexOf_0f7a4 : sm_chain 0 cd_J0_indexOf_0f7a4 = true := by decide +kernel
set_option maxRecDepth 20000 in
theorem q_J0_indexOf_0f7a4_0 (X : Nat × (Nat → Int32)) (C : sm_C) (i0 : Nat) (x1 : Int32) (s : sm_S) : sm_go (sm_ZZ X) sm_PP true C 296 0 [vP (5, i0), vI x1] [] s =
  sm_bI (C 297 [vP (5, i0), vI x1, vI 0] s) sm_tw fun y1 s2 =>
  some (some (some (vI y1)), s2) :=
  (sm_go_x (cd := cd_J0_indexOf_0f7a4) rfl h_J0_indexOf_0f7a4 400 0 _ _ _).trans rfl
theorem h_J0_indexOf_7cf53 : sm_chain 0 cd_J0_indexOf_7cf53 = true := by decide +kernel
set_option maxRecDepth 20000 in
theorem q_J0_indexOf_7cf53_0 (X : Nat × (Nat → Int32)) (C : sm_C) (i0 : Nat) (x1 : Int32) (x2 : Int32) (s : sm_S) : sm_go (sm_ZZ X) sm_PP true C 297 0 [vP (5, i0), vI x1, vI x2] [] s =
  sm_bI (C 299 [vP (5, i0)] s) sm_tw fun y1 s2 =>
  if y1 = 0 then
   (sm_bI (C 294 [vP (5, i0)] s2) sm_tw fun y3 s4 =>
   sm_bI (C 9999 [vP (7, i0), vI x1, vI x2, vI y3] s4) sm_tw fun y5 s6 =>
   some (some (some (vI y5)), s6))
  else
   (sm_bI (C 294 [vP (5, i0)] s2) sm_tw fun y7 s8 =>
   sm_bI (C 303 [vP (7, i0), vI x1, vI x2, vI y7] s8) sm_tw fun y9 s10 =>
   some (some (some (vI y9)), s10)) :=
  (sm_go_x (cd := cd_J0_indexOf_7cf53) rfl h_J0_indexOf_7cf53 400 0 _ _ _).trans rfl
theorem h_J0_coder_7d493 : sm_chain 0 cd_J0_coder_7d493 = true := by decide +kernel
set_option maxRecDepth 20000 in
theorem q_J0_coder_7d493_0 (X : Nat × (Nat → Int32)) (C : sm_C) (i0 : Nat) (s : sm_S) : sm_go (sm_ZZ X) sm_PP true C 298 0 [vP (5, i0)] [] s =
  some (some (some (vI 0)), s) :=
  (sm_go_x (cd := cd_J0_coder_7d493) rfl h_J0_coder_7d493 400 0 _ _ _).trans rfl
theorem h_J0_isLatin1_aae02 : sm_chain 0 cd_J0_isLatin1_aae02 = true := by decide +kernel
set_option maxRecDepth 20000 in
theorem q_J0_isLatin1_aae02_0 (X : Nat × (Nat → Int32)) (C : sm_C) (i0 : Nat) (s : sm_S) : sm_go (sm_ZZ X) sm_PP true C 299 0 [vP (5, i0)] [] s =
  some (some (some (vI 1)), s) :=
  (sm_go_x (cd := cd_J0_isLatin1_aae02) rfl h_J0_isLatin1_aae02 400 0 _ _ _).trans rfl
theorem h_J0_checkIndex_df160 : sm_chain 0 cd_J0_checkIndex_df160 = true := by decide +kernel
set_option maxRecDepth 20000 in
theorem q_J0_checkIndex_df160_0 (X : Nat × (Nat → Int32)) (C : sm_C) (x0 : Int32) (x1 : Int32) (s : sm_S) : sm_go (sm_ZZ X) sm_PP true C 300 0 [vI x0, vI x1] [] s =
  sm_bI (C 305 [vI x0, vI x1, vU] s) sm_tw fun y1 s2 =>
  some (some none, s2) :=
  (sm_go_x (cd := cd_J0_checkIndex_df160) rfl h_J0_checkIndex_df160 400 0 _ _ _).trans rfl
theorem h_J1_charAt_3b067 : sm_chain 0 cd_J1_charAt_3b067 = true := by decide +kernel
set_option maxRecDepth 20000 in
theorem q_J1_charAt_3b067_0 (X : Nat × (Nat → Int32)) (C : sm_C) (i0 : Nat) (x1 : Int32) (s : sm_S) : sm_go (sm_ZZ X) sm_PP true C 301 0 [vP (7, i0), vI x1] [] s =
  sm_bV (C 300 [vI x1, vI (Int32.ofNat (sm_by i0).length)] s) sm_tw fun s2 =>
  sm_ix x1 (sm_by i0).length fun z3 =>
  sm_rt 2 (UInt32.toInt32 (Int32.toUInt32 (((sm_by i0).getD z3 0) &&& 255) % 65536)) s2 :=
  (sm_go_x (cd := cd_J1_charAt_3b067) rfl h_J1_charAt_3b067 400 0 _ _ _).trans rfl
theorem h_J1_canEncode_9a6ad : sm_chain 0 cd_J1_canEncode_9a6ad = true := by decide +kernel
set_option maxRecDepth 20000 in
theorem q_J1_canEncode_9a6ad_0 (X : Nat × (Nat → Int32)) (C : sm_C) (x0 : Int32) (s : sm_S) : sm_go (sm_ZZ X) sm_PP true C 302 0 [vI x0] [] s =
  if x0 < 0 then
   (some (some (some (vI 0)), s))
  else
   (if 255 < x0 then
    (some (some (some (vI 0)), s))
   else
    (some (some (some (vI 1)), s))) :=
  (sm_go_x (cd := cd_J1_canEncode_9a6ad) rfl h_J1_canEncode_9a6ad 400 0 _ _ _).trans rfl
theorem h_J1_indexOf_4cfef : sm_chain 0 cd_J1_indexOf_4cfef = true := by decide +kernel
set_option maxRecDepth 20000 in
theorem q_J1_indexOf_4cfef_0 (X : Nat × (Nat → Int32)) (C : sm_C) (i0 : Nat) (x1 : Int32) (x2 : Int32) (x3 : Int32) (s : sm_S) : sm_go (sm_ZZ X) sm_PP true C 303 0 [vP (7, i0), vI x1, vI x2, vI x3] [] s =
  sm_bI (C 302 [vI x1] s) sm_tw fun y1 s2 =>
  if y1 = 0 then
   (some (some (some (vI (-1))), s2))
  else
   (sm_bI (C 306 [vI x2, vI 0] s2) sm_tw fun y3 s4 =>
   sm_bI (C 307 [vI x3, vI (Int32.ofNat (sm_by i0).length)] s4) sm_tw fun y5 s6 =>
   if y3 < y5 then
    (sm_bI (C 304 [vP (7, i0), vI x1, vI y3, vI y5] s6) sm_tw fun y7 s8 =>
    some (some (some (vI y7)), s8))
   else
    (some (some (some (vI (-1))), s6))) :=
  (sm_go_x (cd := cd_J1_indexOf_4cfef) rfl h_J1_indexOf_4cfef 400 0 _ _ _).trans rfl
theorem h_J1_indexOfChar_4cfef : sm_chain 0 cd_J1_indexOfChar_4cfef = true := by decide +kernel
set_option maxRecDepth 20000 in
theorem q_J1_indexOfChar_4cfef_0 (X : Nat × (Nat → Int32)) (C : sm_C) (i0 : Nat) (x1 : Int32) (x2 : Int32) (x3 : Int32) (s : sm_S) : sm_go (sm_ZZ X) sm_PP true C 304 0 [vP (7, i0), vI x1, vI x2, vI x3, vU, vU] [] s =
  sm_go (sm_ZZ X) sm_PP true C 304 7 [vP (7, i0), vI x1, vI x2, vI x3, vI (Int8.toInt32 (Int32.toInt8 x1)), vI x2] [] s :=
  (sm_go_x (cd := cd_J1_indexOfChar_4cfef) rfl h_J1_indexOfChar_4cfef 400 0 _ _ _).trans rfl
set_option maxRecDepth 20000 in
theorem q_J1_indexOfChar_4cfef_7 (X : Nat × (Nat → Int32)) (C : sm_C) (i0 : Nat) (d1 : sm_V) (d2 : sm_V) (x3 : Int32) (x4 : Int32) (x5 : Int32) (s : sm_S) : sm_go (sm_ZZ X) sm_PP true C 304 7 [vP (7, i0), d1, d2, vI x3, vI x4, vI x5] [] s =
  if x5 < x3 then
   (sm_ix x5 (sm_by i0).length fun z1 =>
   if ((sm_by i0).getD z1 0) = x4 then
    (some (some (some (vI x5)), s))
   else
    (sm_go (sm_ZZ X) sm_PP true C 304 7 [vP (7, i0), vU, vU, vI x3, vI x4, vI (x5 + 1)] [] s))
  else
   (some (some (some (vI (-1))), s)) :=
  (sm_go_x (cd := cd_J1_indexOfChar_4cfef) rfl h_J1_indexOfChar_4cfef 400 7 _ _ _).trans rfl
theorem h_J3_checkIndex_8e157 : sm_chain 0 cd_J3_checkIndex_8e157 = true := by decide +kernel
set_option maxRecDepth 20000 in
theorem q_J3_checkIndex_8e157_0 (X : Nat × (Nat → Int32)) (C : sm_C) (x0 : Int32) (x1 : Int32) (s : sm_S) : sm_go (sm_ZZ X) sm_PP true C 305 0 [vI x0, vI x1, vU] [] s =
  if x0 < 0 then
   (none)
  else
   (if x0 < x1 then
    (some (some (some (vI x0)), s))
   else
    (none)) :=
  (sm_go_x (cd := cd_J3_checkIndex_8e157) rfl h_J3_checkIndex_8e157 400 0 _ _ _).trans rfl
theorem h_J9_max_7cf53 : sm_chain 0 cd_J9_max_7cf53 = true := by decide +kernel
set_option maxRecDepth 20000 in
theorem q_J9_max_7cf53_0 (X : Nat × (Nat → Int32)) (C : sm_C) (x0 : Int32) (x1 : Int32) (s : sm_S) : sm_go (sm_ZZ X) sm_PP true C 306 0 [vI x0, vI x1] [] s =
  if x0 < x1 then
   (some (some (some (vI x1)), s))
  else
   (some (some (some (vI x0)), s)) :=
  (sm_go_x (cd := cd_J9_max_7cf53) rfl h_J9_max_7cf53 400 0 _ _ _).trans rfl
theorem h_J9_min_7cf53 : sm_chain 0 cd_J9_min_7cf53 = true := by decide +kernel
set_option maxRecDepth 20000 in
theorem q_J9_min_7cf53_0 (X : Nat × (Nat → Int32)) (C : sm_C) (x0 : Int32) (x1 : Int32) (s : sm_S) : sm_go (sm_ZZ X) sm_PP true C 307 0 [vI x0, vI x1] [] s =
  if x1 < x0 then
   (some (some (some (vI x1)), s))
  else
   (some (some (some (vI x0)), s)) :=
  (sm_go_x (cd := cd_J9_min_7cf53) rfl h_J9_min_7cf53 400 0 _ _ _).trans rfl
end
