section
theorem h_X13_variable : sm_chain 0 cd_X13_variable = true := by decide +kernel
set_option maxRecDepth 20000 in
theorem q_X13_variable_0 (X : Nat × (Nat → Int32)) (C : sm_C) (i0 : Nat) (x1 : Int64) (s : sm_S) : sm_go (sm_ZZ X) sm_PP true C 213 0 [vP (23, i0), vL x1, vU, vU] [] s =
  sm_go (sm_ZZ X) sm_PP true C 213 2 [vP (23, i0), vL x1, vU, vI 0] [] s :=
  (sm_go_x (cd := cd_X13_variable) rfl h_X13_variable 400 0 _ _ _).trans rfl
set_option maxRecDepth 20000 in
theorem q_X13_variable_2 (X : Nat × (Nat → Int32)) (C : sm_C) (i0 : Nat) (x1 : Int64) (d2 : sm_V) (x3 : Int32) (s : sm_S) : sm_go (sm_ZZ X) sm_PP true C 213 2 [vP (23, i0), vL x1, d2, vI x3] [] s =
  if x3 < (s.1 23 i0 16) then
   (sm_ix x3 24 fun z1 =>
   if (lg_cmp (s.2.1 71 i0 z1) x1) = 0 then
    (some (some (some (vI x3)), s))
   else
    (sm_go (sm_ZZ X) sm_PP true C 213 2 [vP (23, i0), vL x1, vU, vI (x3 + 1)] [] s))
  else
   (some (some (some (vI (-1))), s)) :=
  (sm_go_x (cd := cd_X13_variable) rfl h_X13_variable 400 2 _ _ _).trans rfl
theorem h_X13_knows : sm_chain 0 cd_X13_knows = true := by decide +kernel
set_option maxRecDepth 20000 in
theorem q_X13_knows_0 (X : Nat × (Nat → Int32)) (C : sm_C) (i0 : Nat) (x1 : Int64) (x3 : Int32) (s : sm_S) : sm_go (sm_ZZ X) sm_PP true C 214 0 [vP (23, i0), vL x1, vU, vI x3] [] s =
  sm_ix (s.1 23 i0 16) 24 fun z1 =>
  sm_ix ((sL s 71 i0 z1 x1).1 23 i0 16) 24 fun z2 =>
  sm_ix ((sI (sL s 71 i0 z1 x1) 72 i0 z2 x3).1 23 i0 16) 24 fun z3 =>
  some (some none, (sI (sI (sI (sI (sL s 71 i0 z1 x1) 72 i0 z2 x3) 73 i0 z3 ((sI (sL s 71 i0 z1 x1) 72 i0 z2 x3).1 23 i0 15)) 23 i0 16 (((sI (sI (sL s 71 i0 z1 x1) 72 i0 z2 x3) 73 i0 z3 ((sI (sL s 71 i0 z1 x1) 72 i0 z2 x3).1 23 i0 15)).1 23 i0 16) + 1)) 23 i0 15 (((sI (sI (sI (sL s 71 i0 z1 x1) 72 i0 z2 x3) 73 i0 z3 ((sI (sL s 71 i0 z1 x1) 72 i0 z2 x3).1 23 i0 15)) 23 i0 16 (((sI (sI (sL s 71 i0 z1 x1) 72 i0 z2 x3) 73 i0 z3 ((sI (sL s 71 i0 z1 x1) 72 i0 z2 x3).1 23 i0 15)).1 23 i0 16) + 1)).1 23 i0 15) + 1))) :=
  (sm_go_x (cd := cd_X13_knows) rfl h_X13_knows 400 0 _ _ _).trans rfl
theorem h_X13_fresh : sm_chain 0 cd_X13_fresh = true := by decide +kernel
set_option maxRecDepth 20000 in
theorem q_X13_fresh_0 (X : Nat × (Nat → Int32)) (C : sm_C) (i0 : Nat) (s : sm_S) : sm_go (sm_ZZ X) sm_PP true C 215 0 [vP (23, i0)] [] s =
  sm_ix (s.1 23 i0 11) 803 fun z1 =>
  if (s.1 68 i0 z1) = 1 then
   (sm_go (sm_ZZ X) sm_PP true C 215 19 [vP (23, i0)] [vI 1, vP (23, i0)] s)
  else
   (sm_go (sm_ZZ X) sm_PP true C 215 19 [vP (23, i0)] [vI 0, vP (23, i0)] s) :=
  (sm_go_x (cd := cd_X13_fresh) rfl h_X13_fresh 400 0 _ _ _).trans rfl
set_option maxRecDepth 20000 in
theorem q_X13_fresh_19 (X : Nat × (Nat → Int32)) (C : sm_C) (i0 : Nat) (q100 : Nat × Nat) (x101 : Int32) (s : sm_S) : sm_go (sm_ZZ X) sm_PP true C 215 19 [vP (23, i0)] [vI x101, vP q100] s =
  if q100.1 = 23 then
   (sm_bV (C 201 [vP q100, vI x101] s) sm_tw fun s2 =>
  sm_ix (s2.1 23 i0 11) 803 fun z3 =>
  sm_bI (C 213 [vP (23, i0), vL (s2.2.1 70 i0 z3)] s2) sm_tw fun y4 s5 =>
  if y4 = (-1) then
   (if (s5.1 23 i0 15) = 24 then
    (sm_bP (C 200 [vP (23, i0), vI 5, vI (s5.1 23 i0 11)] s5) sm_tw fun y6 s7 =>
    sm_rq y6 24 fun _ => sm_tw s7)
   else
    (some (some none, s5)))
  else
   (sm_bP (C 200 [vP (23, i0), vI 3, vI (s5.1 23 i0 11)] s5) sm_tw fun y8 s9 =>
   sm_rq y8 24 fun _ => sm_tw s9))
  else none :=
  (sm_go_x (cd := cd_X13_fresh) rfl h_X13_fresh 400 19 _ _ _).trans rfl
theorem h_X13_type : sm_chain 0 cd_X13_type = true := by decide +kernel
set_option maxRecDepth 20000 in
theorem q_X13_type_0 (X : Nat × (Nat → Int32)) (C : sm_C) (i0 : Nat) (s : sm_S) : sm_go (sm_ZZ X) sm_PP true C 216 0 [vP (23, i0), vU] [] s =
  sm_ix (s.1 23 i0 11) 803 fun z1 =>
  if (s.1 68 i0 z1) = 2 then
   (sm_go (sm_ZZ X) sm_PP true C 216 19 [vP (23, i0), vU] [vI 1, vP (23, i0)] s)
  else
   (sm_go (sm_ZZ X) sm_PP true C 216 19 [vP (23, i0), vU] [vI 0, vP (23, i0)] s) :=
  (sm_go_x (cd := cd_X13_type) rfl h_X13_type 400 0 _ _ _).trans rfl
set_option maxRecDepth 20000 in
theorem q_X13_type_19 (X : Nat × (Nat → Int32)) (C : sm_C) (i0 : Nat) (d1 : sm_V) (q100 : Nat × Nat) (x101 : Int32) (s : sm_S) : sm_go (sm_ZZ X) sm_PP true C 216 19 [vP (23, i0), d1] [vI x101, vP q100] s =
  if q100.1 = 23 then
   (sm_bV (C 201 [vP q100, vI x101] s) sm_tw fun s2 =>
  sm_ix (s2.1 23 i0 11) 803 fun z3 =>
  sm_bV (C 203 [vP (23, i0)] s2) sm_tw fun s5 =>
  if (Int64.toInt32 (s2.2.1 70 i0 z3)) = 36 then
   (some (some (some (vI (Int64.toInt32 (s2.2.1 70 i0 z3)))), s5))
  else
   (sm_bI (C 204 [vP (23, i0), vI 91] s5) sm_tw fun y6 s7 =>
   if y6 = 0 then
    (some (some (some (vI (Int64.toInt32 (s2.2.1 70 i0 z3)))), s7))
   else
    (sm_bV (C 203 [vP (23, i0)] s7) sm_tw fun s9 =>
    sm_bV (C 206 [vP (23, i0), vI 93] s9) sm_tw fun s11 =>
    some (some (some (vI (18 + (Int64.toInt32 (s2.2.1 70 i0 z3))))), s11))))
  else none :=
  (sm_go_x (cd := cd_X13_type) rfl h_X13_type 400 19 _ _ _).trans rfl
theorem h_X13_block : sm_chain 0 cd_X13_block = true := by decide +kernel
set_option maxRecDepth 20000 in
theorem q_X13_block_0 (X : Nat × (Nat → Int32)) (C : sm_C) (i0 : Nat) (s : sm_S) : sm_go (sm_ZZ X) sm_PP true C 217 0 [vP (23, i0), vU] [] s =
  sm_bI (C 204 [vP (23, i0), vI 123] s) sm_tw fun y1 s2 =>
  if y1 = 0 then
   (sm_go (sm_ZZ X) sm_PP true C 217 24 [vP (23, i0), vU] [vI 0, vP (23, i0)] s2)
  else
   (if (s2.1 23 i0 14) < 8 then
    (sm_go (sm_ZZ X) sm_PP true C 217 24 [vP (23, i0), vU] [vI 1, vP (23, i0)] s2)
   else
    (sm_go (sm_ZZ X) sm_PP true C 217 24 [vP (23, i0), vU] [vI 0, vP (23, i0)] s2)) :=
  (sm_go_x (cd := cd_X13_block) rfl h_X13_block 400 0 _ _ _).trans rfl
set_option maxRecDepth 20000 in
theorem q_X13_block_24 (X : Nat × (Nat → Int32)) (C : sm_C) (i0 : Nat) (d1 : sm_V) (q100 : Nat × Nat) (x101 : Int32) (s : sm_S) : sm_go (sm_ZZ X) sm_PP true C 217 24 [vP (23, i0), d1] [vI x101, vP q100] s =
  if q100.1 = 23 then
   (sm_bV (C 201 [vP q100, vI x101] s) sm_tw fun s2 =>
  sm_bV (C 203 [vP (23, i0)] (sI s2 23 i0 14 ((s2.1 23 i0 14) + 1))) sm_tw fun s4 =>
  sm_go (sm_ZZ X) sm_PP true C 217 46 [vP (23, i0), vI (s4.1 23 i0 16)] [] s4)
  else none :=
  (sm_go_x (cd := cd_X13_block) rfl h_X13_block 400 24 _ _ _).trans rfl
set_option maxRecDepth 20000 in
theorem q_X13_block_46 (X : Nat × (Nat → Int32)) (C : sm_C) (i0 : Nat) (x1 : Int32) (s : sm_S) : sm_go (sm_ZZ X) sm_PP true C 217 46 [vP (23, i0), vI x1] [] s =
  sm_bI (C 204 [vP (23, i0), vI 125] s) sm_tw fun y1 s2 =>
  if y1 = 0 then
   (sm_bV (C 218 [vP (23, i0)] s2) sm_tw fun s4 =>
   sm_go (sm_ZZ X) sm_PP true C 217 46 [vP (23, i0), vI x1] [] s4)
  else
   (sm_bV (C 203 [vP (23, i0)] (sI (sI s2 23 i0 16 x1) 23 i0 14 (((sI s2 23 i0 16 x1).1 23 i0 14) - 1))) sm_tw fun s6 =>
   some (some none, s6)) :=
  (sm_go_x (cd := cd_X13_block) rfl h_X13_block 400 46 _ _ _).trans rfl
theorem h_X13_statement : sm_chain 0 cd_X13_statement = true := by decide +kernel
set_option maxRecDepth 20000 in
theorem q_X13_statement_0 (X : Nat × (Nat → Int32)) (C : sm_C) (i0 : Nat) (s : sm_S) : sm_go (sm_ZZ X) sm_PP true C 218 0 [vP (23, i0), vU, vU] [] s =
  sm_ix ((sI s 23 i0 13 0).1 23 i0 11) 803 fun z1 =>
  if ((sI s 23 i0 13 0).1 68 i0 z1) = 5 then
   (sm_ix ((sI s 23 i0 13 0).1 23 i0 11) 803 fun z2 =>
   if (Int64.toInt32 ((sI s 23 i0 13 0).2.1 70 i0 z2)) = 1 then
    (sm_bV (C 219 [vP (23, i0)] (sI s 23 i0 13 0)) sm_tw fun s4 =>
    some (some none, s4))
   else if (Int64.toInt32 ((sI s 23 i0 13 0).2.1 70 i0 z2)) = 2 then
    (sm_bV (C 221 [vP (23, i0), vI ((sI s 23 i0 13 0).1 23 i0 11)] (sI s 23 i0 13 0)) sm_tw fun s6 =>
    some (some none, s6))
   else if (Int64.toInt32 ((sI s 23 i0 13 0).2.1 70 i0 z2)) = 3 then
    (sm_bV (C 228 [vP (23, i0)] (sI s 23 i0 13 0)) sm_tw fun s8 =>
    some (some none, s8))
   else if (Int64.toInt32 ((sI s 23 i0 13 0).2.1 70 i0 z2)) = 4 then
    (sm_bV (C 222 [vP (23, i0), vI ((sI s 23 i0 13 0).1 23 i0 11)] (sI s 23 i0 13 0)) sm_tw fun s10 =>
    some (some none, s10))
   else if (Int64.toInt32 ((sI s 23 i0 13 0).2.1 70 i0 z2)) = 5 then
    (sm_bV (C 223 [vP (23, i0)] (sI s 23 i0 13 0)) sm_tw fun s12 =>
    some (some none, s12))
   else if (Int64.toInt32 ((sI s 23 i0 13 0).2.1 70 i0 z2)) = 6 then
    (sm_bV (C 228 [vP (23, i0)] (sI s 23 i0 13 0)) sm_tw fun s14 =>
    some (some none, s14))
   else if (Int64.toInt32 ((sI s 23 i0 13 0).2.1 70 i0 z2)) = 7 then
    (sm_bV (C 224 [vP (23, i0), vI ((sI s 23 i0 13 0).1 23 i0 11)] (sI s 23 i0 13 0)) sm_tw fun s16 =>
    some (some none, s16))
   else if (Int64.toInt32 ((sI s 23 i0 13 0).2.1 70 i0 z2)) = 8 then
    (sm_bV (C 203 [vP (23, i0)] (sI s 23 i0 13 0)) sm_tw fun s18 =>
    sm_bI (C 230 [vP (23, i0)] s18) sm_tw fun y19 s20 =>
    sm_bI (C 204 [vP (23, i0), vI 59] s20) sm_tw fun y21 s22 =>
    sm_bV (C 201 [vP (23, i0), vI y21] s22) sm_tw fun s24 =>
    if y19 = 36 then
     (sm_go (sm_ZZ X) sm_PP true C 218 164 [vP (23, i0), vI ((sI s 23 i0 13 0).1 23 i0 11), vI y19] [vI 1, vP (23, i0)] s24)
    else
     (sm_bI (C 183 [vI y19] s24) sm_tw fun y25 s26 =>
     if y25 = 0 then
      (sm_go (sm_ZZ X) sm_PP true C 218 164 [vP (23, i0), vI ((sI s 23 i0 13 0).1 23 i0 11), vI y19] [vI 0, vP (23, i0)] s26)
     else
      (sm_go (sm_ZZ X) sm_PP true C 218 164 [vP (23, i0), vI ((sI s 23 i0 13 0).1 23 i0 11), vI y19] [vI 1, vP (23, i0)] s26)))
   else if (Int64.toInt32 ((sI s 23 i0 13 0).2.1 70 i0 z2)) = 9 then
    (sm_bV (C 203 [vP (23, i0)] (sI s 23 i0 13 0)) sm_tw fun s28 =>
    sm_bI (C 230 [vP (23, i0)] s28) sm_tw fun y29 s30 =>
    sm_bI (C 204 [vP (23, i0), vI 59] s30) sm_tw fun y31 s32 =>
    sm_bV (C 201 [vP (23, i0), vI y31] s32) sm_tw fun s34 =>
    if y29 = 36 then
     (sm_go (sm_ZZ X) sm_PP true C 218 229 [vP (23, i0), vI ((sI s 23 i0 13 0).1 23 i0 11), vI y29] [vI 1, vP (23, i0)] s34)
    else
     (sm_go (sm_ZZ X) sm_PP true C 218 229 [vP (23, i0), vI ((sI s 23 i0 13 0).1 23 i0 11), vI y29] [vI 0, vP (23, i0)] s34))
   else (sm_bV (C 228 [vP (23, i0)] (sI s 23 i0 13 0)) sm_tw fun s36 =>
    some (some none, s36)))
  else
   (sm_bV (C 228 [vP (23, i0)] (sI s 23 i0 13 0)) sm_tw fun s38 =>
   some (some none, s38)) :=
  (sm_go_x (cd := cd_X13_statement) rfl h_X13_statement 400 0 _ _ _).trans rfl
set_option maxRecDepth 20000 in
theorem q_X13_statement_164 (X : Nat × (Nat → Int32)) (C : sm_C) (i0 : Nat) (x1 : Int32) (x2 : Int32) (q100 : Nat × Nat) (x101 : Int32) (s : sm_S) : sm_go (sm_ZZ X) sm_PP true C 218 164 [vP (23, i0), vI x1, vI x2] [vI x101, vP q100] s =
  if q100.1 = 23 then
   (sm_bV (C 202 [vP q100, vI x101, vI (s.1 23 i0 11)] s) sm_tw fun s2 =>
  if x2 = 36 then
   (sm_bI (C 207 [vP (23, i0), vI 20, vI 0, vI x1] s2) sm_tw fun y3 s4 =>
   sm_bV (C 203 [vP (23, i0)] s4) sm_tw fun s6 =>
   some (some none, s6))
  else
   (sm_bI (C 207 [vP (23, i0), vI 21, vI 0, vI x1] s2) sm_tw fun y7 s8 =>
   sm_bV (C 203 [vP (23, i0)] s8) sm_tw fun s10 =>
   some (some none, s10)))
  else none :=
  (sm_go_x (cd := cd_X13_statement) rfl h_X13_statement 400 164 _ _ _).trans rfl
set_option maxRecDepth 20000 in
theorem q_X13_statement_229 (X : Nat × (Nat → Int32)) (C : sm_C) (i0 : Nat) (x1 : Int32) (d2 : sm_V) (q100 : Nat × Nat) (x101 : Int32) (s : sm_S) : sm_go (sm_ZZ X) sm_PP true C 218 229 [vP (23, i0), vI x1, d2] [vI x101, vP q100] s =
  if q100.1 = 23 then
   (sm_bV (C 202 [vP q100, vI x101, vI (s.1 23 i0 11)] s) sm_tw fun s2 =>
  sm_bI (C 207 [vP (23, i0), vI 22, vI 0, vI x1] s2) sm_tw fun y3 s4 =>
  sm_bV (C 203 [vP (23, i0)] s4) sm_tw fun s6 =>
  some (some none, s6))
  else none :=
  (sm_go_x (cd := cd_X13_statement) rfl h_X13_statement 400 229 _ _ _).trans rfl
theorem h_X13_variable_ : sm_chain 0 cd_X13_variable_ = true := by decide +kernel
set_option maxRecDepth 20000 in
theorem q_X13_variable__0 (X : Nat × (Nat → Int32)) (C : sm_C) (i0 : Nat) (s : sm_S) : sm_go (sm_ZZ X) sm_PP true C 219 0 [vP (23, i0), vU, vU, vU, vU, vU] [] s =
  sm_bV (C 203 [vP (23, i0)] s) sm_tw fun s2 =>
  sm_bI (C 216 [vP (23, i0)] s2) sm_tw fun y3 s4 =>
  sm_bV (C 215 [vP (23, i0)] s4) sm_tw fun s6 =>
  sm_ix (s6.1 23 i0 11) 803 fun z7 =>
  sm_bV (C 203 [vP (23, i0)] s6) sm_tw fun s9 =>
  sm_bV (C 206 [vP (23, i0), vI 61] s9) sm_tw fun s11 =>
  sm_bI (C 230 [vP (23, i0)] s11) sm_tw fun y12 s13 =>
  sm_bI (C 204 [vP (23, i0), vI 59] s13) sm_tw fun y14 s15 =>
  sm_bV (C 201 [vP (23, i0), vI y14] s15) sm_tw fun s17 =>
  sm_bI (C 185 [vI y12, vI y3] s17) sm_tw fun y18 s19 =>
  sm_bV (C 202 [vP (23, i0), vI y18, vI (s19.1 23 i0 11)] s19) sm_tw fun s21 =>
  sm_bI (C 207 [vP (23, i0), vI 2, vI (s21.1 23 i0 15), vI (s9.1 23 i0 11)] s21) sm_tw fun y22 s23 =>
  sm_bV (C 203 [vP (23, i0)] s23) sm_tw fun s25 =>
  sm_bV (C 214 [vP (23, i0), vL (s6.2.1 70 i0 z7), vI y3] s25) sm_tw fun s27 =>
  some (some none, s27) :=
  (sm_go_x (cd := cd_X13_variable_) rfl h_X13_variable_ 400 0 _ _ _).trans rfl
theorem h_X13_asks : sm_chain 0 cd_X13_asks = true := by decide +kernel
set_option maxRecDepth 20000 in
theorem q_X13_asks_0 (X : Nat × (Nat → Int32)) (C : sm_C) (i0 : Nat) (x1 : Int32) (s : sm_S) : sm_go (sm_ZZ X) sm_PP true C 220 0 [vP (23, i0), vI x1, vU] [] s =
  sm_bV (C 203 [vP (23, i0)] s) sm_tw fun s2 =>
  sm_bV (C 229 [vP (23, i0), vI 40] s2) sm_tw fun s4 =>
  sm_bI (C 230 [vP (23, i0)] s4) sm_tw fun y5 s6 =>
  sm_bI (C 204 [vP (23, i0), vI 41] s6) sm_tw fun y7 s8 =>
  sm_bV (C 201 [vP (23, i0), vI y7] s8) sm_tw fun s10 =>
  if y5 = 36 then
   (sm_go (sm_ZZ X) sm_PP true C 220 37 [vP (23, i0), vI x1, vI y5] [vI 1, vP (23, i0)] s10)
  else
   (sm_go (sm_ZZ X) sm_PP true C 220 37 [vP (23, i0), vI x1, vI y5] [vI 0, vP (23, i0)] s10) :=
  (sm_go_x (cd := cd_X13_asks) rfl h_X13_asks 400 0 _ _ _).trans rfl
set_option maxRecDepth 20000 in
theorem q_X13_asks_37 (X : Nat × (Nat → Int32)) (C : sm_C) (i0 : Nat) (x1 : Int32) (d2 : sm_V) (q100 : Nat × Nat) (x101 : Int32) (s : sm_S) : sm_go (sm_ZZ X) sm_PP true C 220 37 [vP (23, i0), vI x1, d2] [vI x101, vP q100] s =
  if q100.1 = 23 then
   (sm_bV (C 202 [vP q100, vI x101, vI (s.1 23 i0 11)] s) sm_tw fun s2 =>
  sm_bV (C 203 [vP (23, i0)] (sI s2 23 i0 13 ((s2.1 23 i0 13) - 1))) sm_tw fun s4 =>
  sm_bI (C 207 [vP (23, i0), vI 19, vI 0, vI x1] s4) sm_tw fun y5 s6 =>
  some (some (some (vI y5)), s6))
  else none :=
  (sm_go_x (cd := cd_X13_asks) rfl h_X13_asks 400 37 _ _ _).trans rfl
theorem h_X13_chooses : sm_chain 0 cd_X13_chooses = true := by decide +kernel
set_option maxRecDepth 20000 in
theorem q_X13_chooses_0 (X : Nat × (Nat → Int32)) (C : sm_C) (i0 : Nat) (x1 : Int32) (s : sm_S) : sm_go (sm_ZZ X) sm_PP true C 221 0 [vP (23, i0), vI x1, vU, vU] [] s =
  sm_bI (C 220 [vP (23, i0), vI x1] s) sm_tw fun y1 s2 =>
  sm_bV (C 217 [vP (23, i0)] s2) sm_tw fun s4 =>
  sm_bI (C 205 [vP (23, i0), vI 3] s4) sm_tw fun y5 s6 =>
  if y5 = 0 then
   (sm_rq (s6.2.2.1 23 i0 7) 22 fun j7 =>
   sm_rq (s6.2.2.1 23 i0 7) 22 fun j8 =>
   sm_ix y1 4000 fun z9 =>
   some (some none, (sI s6 64 j7 z9 (s6.1 22 j8 6))))
  else
   (sm_bI (C 207 [vP (23, i0), vI 26, vI 0, vI (-1)] s6) sm_tw fun y10 s11 =>
   sm_rq (s11.2.2.1 23 i0 7) 22 fun j12 =>
   sm_rq (s11.2.2.1 23 i0 7) 22 fun j13 =>
   sm_ix y1 4000 fun z14 =>
   sm_bV (C 203 [vP (23, i0)] (sI s11 64 j12 z14 (s11.1 22 j13 6))) sm_tw fun s16 =>
   sm_bV (C 217 [vP (23, i0)] s16) sm_tw fun s18 =>
   sm_rq (s18.2.2.1 23 i0 7) 22 fun j19 =>
   sm_rq (s18.2.2.1 23 i0 7) 22 fun j20 =>
   sm_ix y10 4000 fun z21 =>
   some (some none, (sI s18 64 j19 z21 (s18.1 22 j20 6)))) :=
  (sm_go_x (cd := cd_X13_chooses) rfl h_X13_chooses 400 0 _ _ _).trans rfl
theorem h_X13_repeats : sm_chain 0 cd_X13_repeats = true := by decide +kernel
set_option maxRecDepth 20000 in
theorem q_X13_repeats_0 (X : Nat × (Nat → Int32)) (C : sm_C) (i0 : Nat) (x1 : Int32) (s : sm_S) : sm_go (sm_ZZ X) sm_PP true C 222 0 [vP (23, i0), vI x1, vU, vU] [] s =
  sm_rq (s.2.2.1 23 i0 7) 22 fun j1 =>
  sm_bI (C 220 [vP (23, i0), vI x1] s) sm_tw fun y2 s3 =>
  sm_bV (C 217 [vP (23, i0)] s3) sm_tw fun s5 =>
  sm_bI (C 207 [vP (23, i0), vI 26, vI (s.1 22 j1 6), vI (-1)] s5) sm_tw fun y6 s7 =>
  sm_rq (s7.2.2.1 23 i0 7) 22 fun j8 =>
  sm_rq (s7.2.2.1 23 i0 7) 22 fun j9 =>
  sm_ix y2 4000 fun z10 =>
  some (some none, (sI s7 64 j8 z10 (s7.1 22 j9 6))) :=
  (sm_go_x (cd := cd_X13_repeats) rfl h_X13_repeats 400 0 _ _ _).trans rfl
theorem h_X13_attempts : sm_chain 0 cd_X13_attempts = true := by decide +kernel
set_option maxRecDepth 20000 in
theorem q_X13_attempts_0 (X : Nat × (Nat → Int32)) (C : sm_C) (i0 : Nat) (s : sm_S) : sm_go (sm_ZZ X) sm_PP true C 223 0 [vP (23, i0), vU, vU, vU, vU, vU] [] s =
  sm_bV (C 203 [vP (23, i0)] s) sm_tw fun s2 =>
  sm_bI (C 207 [vP (23, i0), vI 27, vI 0, vI (-1)] s2) sm_tw fun y3 s4 =>
  sm_bV (C 217 [vP (23, i0)] s4) sm_tw fun s6 =>
  sm_bI (C 207 [vP (23, i0), vI 28, vI 0, vI (-1)] s6) sm_tw fun y7 s8 =>
  sm_bI (C 207 [vP (23, i0), vI 26, vI 0, vI (-1)] s8) sm_tw fun y9 s10 =>
  sm_bI (C 205 [vP (23, i0), vI 6] s10) sm_tw fun y11 s12 =>
  sm_bV (C 201 [vP (23, i0), vI y11] s12) sm_tw fun s14 =>
  sm_bV (C 203 [vP (23, i0)] s14) sm_tw fun s16 =>
  sm_bV (C 206 [vP (23, i0), vI 40] s16) sm_tw fun s18 =>
  sm_bV (C 215 [vP (23, i0)] s18) sm_tw fun s20 =>
  sm_ix (s20.1 23 i0 11) 803 fun z21 =>
  sm_bV (C 203 [vP (23, i0)] s20) sm_tw fun s23 =>
  sm_bV (C 206 [vP (23, i0), vI 41] s23) sm_tw fun s25 =>
  sm_rq (s25.2.2.1 23 i0 7) 22 fun j26 =>
  sm_rq (s25.2.2.1 23 i0 7) 22 fun j27 =>
  sm_ix y3 4000 fun z28 =>
  sm_rq ((sI s25 64 j26 z28 (s25.1 22 j27 6)).2.2.1 23 i0 7) 22 fun j29 =>
  sm_ix y3 4000 fun z30 =>
  sm_bV (C 214 [vP (23, i0), vL (s20.2.1 70 i0 z21), vI 36] (sI (sI s25 64 j26 z28 (s25.1 22 j27 6)) 65 j29 z30 ((sI s25 64 j26 z28 (s25.1 22 j27 6)).1 23 i0 15))) sm_tw fun s32 =>
  sm_bV (C 217 [vP (23, i0)] s32) sm_tw fun s34 =>
  sm_rq ((sI s34 23 i0 16 ((sI (sI s25 64 j26 z28 (s25.1 22 j27 6)) 65 j29 z30 ((sI s25 64 j26 z28 (s25.1 22 j27 6)).1 23 i0 15)).1 23 i0 16)).2.2.1 23 i0 7) 22 fun j35 =>
  sm_rq ((sI s34 23 i0 16 ((sI (sI s25 64 j26 z28 (s25.1 22 j27 6)) 65 j29 z30 ((sI s25 64 j26 z28 (s25.1 22 j27 6)).1 23 i0 15)).1 23 i0 16)).2.2.1 23 i0 7) 22 fun j36 =>
  sm_ix y9 4000 fun z37 =>
  some (some none, (sI (sI s34 23 i0 16 ((sI (sI s25 64 j26 z28 (s25.1 22 j27 6)) 65 j29 z30 ((sI s25 64 j26 z28 (s25.1 22 j27 6)).1 23 i0 15)).1 23 i0 16)) 64 j35 z37 ((sI s34 23 i0 16 ((sI (sI s25 64 j26 z28 (s25.1 22 j27 6)) 65 j29 z30 ((sI s25 64 j26 z28 (s25.1 22 j27 6)).1 23 i0 15)).1 23 i0 16)).1 22 j36 6))) :=
  (sm_go_x (cd := cd_X13_attempts) rfl h_X13_attempts 400 0 _ _ _).trans rfl
theorem h_X13_gives : sm_chain 0 cd_X13_gives = true := by decide +kernel
set_option maxRecDepth 20000 in
theorem q_X13_gives_0 (X : Nat × (Nat → Int32)) (C : sm_C) (i0 : Nat) (x1 : Int32) (s : sm_S) : sm_go (sm_ZZ X) sm_PP true C 224 0 [vP (23, i0), vI x1, vU, vU] [] s =
  sm_bV (C 203 [vP (23, i0)] s) sm_tw fun s2 =>
  sm_rq (s2.2.2.1 23 i0 7) 22 fun j3 =>
  sm_ix (s2.1 23 i0 12) 12 fun z4 =>
  sm_bI (C 204 [vP (23, i0), vI 59] s2) sm_tw fun y5 s6 =>
  if y5 = 0 then
   (sm_bI (C 230 [vP (23, i0)] s6) sm_tw fun y7 s8 =>
   sm_go (sm_ZZ X) sm_PP true C 224 35 [vP (23, i0), vI x1, vI (s2.1 59 j3 z4), vU] [vI y7] s8)
  else
   (sm_go (sm_ZZ X) sm_PP true C 224 35 [vP (23, i0), vI x1, vI (s2.1 59 j3 z4), vU] [vI 38] s6) :=
  (sm_go_x (cd := cd_X13_gives) rfl h_X13_gives 400 0 _ _ _).trans rfl
set_option maxRecDepth 20000 in
theorem q_X13_gives_35 (X : Nat × (Nat → Int32)) (C : sm_C) (i0 : Nat) (x1 : Int32) (x2 : Int32) (d3 : sm_V) (x100 : Int32) (s : sm_S) : sm_go (sm_ZZ X) sm_PP true C 224 35 [vP (23, i0), vI x1, vI x2, d3] [vI x100] s =
  sm_bI (C 204 [vP (23, i0), vI 59] s) sm_tw fun y1 s2 =>
  sm_bV (C 201 [vP (23, i0), vI y1] s2) sm_tw fun s4 =>
  if x2 = 38 then
   (if x100 = 38 then
    (sm_rq (s4.2.2.1 23 i0 7) 22 fun j5 =>
    if (s4.1 22 j5 6) < 0 then
     (sm_go (sm_ZZ X) sm_PP true C 224 90 [vP (23, i0), vI x1, vI x2, vI x100] [vI 0, vP (23, i0)] s4)
    else
     (sm_bI (C 225 [vP (23, i0), vI x1] s4) sm_tw fun y6 s7 =>
     if y6 = 0 then
      (sm_go (sm_ZZ X) sm_PP true C 224 90 [vP (23, i0), vI x1, vI x2, vI x100] [vI 0, vP (23, i0)] s7)
     else
      (sm_go (sm_ZZ X) sm_PP true C 224 90 [vP (23, i0), vI x1, vI x2, vI x100] [vI 1, vP (23, i0)] s7)))
   else
    (sm_go (sm_ZZ X) sm_PP true C 224 90 [vP (23, i0), vI x1, vI x2, vI x100] [vI 0, vP (23, i0)] s4))
  else
   (sm_bI (C 185 [vI x100, vI x2] s4) sm_tw fun y8 s9 =>
   sm_go (sm_ZZ X) sm_PP true C 224 90 [vP (23, i0), vI x1, vI x2, vI x100] [vI y8, vP (23, i0)] s9) :=
  (sm_go_x (cd := cd_X13_gives) rfl h_X13_gives 400 35 _ _ _).trans rfl
set_option maxRecDepth 20000 in
theorem q_X13_gives_90 (X : Nat × (Nat → Int32)) (C : sm_C) (i0 : Nat) (x1 : Int32) (x2 : Int32) (d3 : sm_V) (q100 : Nat × Nat) (x101 : Int32) (s : sm_S) : sm_go (sm_ZZ X) sm_PP true C 224 90 [vP (23, i0), vI x1, vI x2, d3] [vI x101, vP q100] s =
  if q100.1 = 23 then
   (sm_bV (C 202 [vP q100, vI x101, vI (s.1 23 i0 11)] s) sm_tw fun s2 =>
  if x2 = 38 then
   (sm_bI (C 207 [vP (23, i0), vI 24, vI 0, vI x1] s2) sm_tw fun y3 s4 =>
   sm_bV (C 203 [vP (23, i0)] s4) sm_tw fun s6 =>
   some (some none, s6))
  else
   (sm_bI (C 207 [vP (23, i0), vI 23, vI 0, vI x1] s2) sm_tw fun y7 s8 =>
   sm_bV (C 203 [vP (23, i0)] s8) sm_tw fun s10 =>
   some (some none, s10)))
  else none :=
  (sm_go_x (cd := cd_X13_gives) rfl h_X13_gives 400 90 _ _ _).trans rfl
theorem h_X13_isBare : sm_chain 0 cd_X13_isBare = true := by decide +kernel
set_option maxRecDepth 20000 in
theorem q_X13_isBare_0 (X : Nat × (Nat → Int32)) (C : sm_C) (i0 : Nat) (x1 : Int32) (s : sm_S) : sm_go (sm_ZZ X) sm_PP true C 225 0 [vP (23, i0), vI x1] [] s =
  if (s.1 23 i0 11) = (x1 + 1) then
   (some (some (some (vI 1)), s))
  else
   (some (some (some (vI 0)), s)) :=
  (sm_go_x (cd := cd_X13_isBare) rfl h_X13_isBare 400 0 _ _ _).trans rfl
theorem h_X13_waits : sm_chain 0 cd_X13_waits = true := by decide +kernel
set_option maxRecDepth 20000 in
theorem q_X13_waits_0 (X : Nat × (Nat → Int32)) (C : sm_C) (i0 : Nat) (x1 : Int32) (x2 : Int32) (x3 : Int32) (s : sm_S) : sm_go (sm_ZZ X) sm_PP true C 226 0 [vP (23, i0), vI x1, vI x2, vI x3] [] s =
  some (some none, (sI (sI (sI (sI s 23 i0 20 x1) 23 i0 21 x1) 23 i0 22 x2) 23 i0 23 x3)) :=
  (sm_go_x (cd := cd_X13_waits) rfl h_X13_waits 400 0 _ _ _).trans rfl
theorem h_X13_reads : sm_chain 0 cd_X13_reads = true := by decide +kernel
set_option maxRecDepth 20000 in
theorem q_X13_reads_0 (X : Nat × (Nat → Int32)) (C : sm_C) (i0 : Nat) (s : sm_S) : sm_go (sm_ZZ X) sm_PP true C 227 0 [vP (23, i0)] [] s =
  if (s.1 23 i0 21) = 1 then
   (sm_bI (C 207 [vP (23, i0), vI 1, vI (s.1 23 i0 22), vI (s.1 23 i0 23)] s) sm_tw fun y1 s2 =>
   some (some none, (sI s2 23 i0 21 0)))
  else
   (if (s.1 23 i0 21) = 2 then
    (sm_bI (C 207 [vP (23, i0), vI 3, vI 0, vI (s.1 23 i0 23)] s) sm_tw fun y3 s4 =>
    some (some none, (sI s4 23 i0 21 0)))
   else
    (if (s.1 23 i0 21) = 3 then
     (sm_bI (C 207 [vP (23, i0), vI 5, vI (s.1 23 i0 22), vI (s.1 23 i0 23)] s) sm_tw fun y5 s6 =>
     some (some none, (sI s6 23 i0 21 0)))
    else
     (some (some none, (sI s 23 i0 21 0))))) :=
  (sm_go_x (cd := cd_X13_reads) rfl h_X13_reads 400 0 _ _ _).trans rfl
theorem h_X13_acts : sm_chain 0 cd_X13_acts = true := by decide +kernel
set_option maxRecDepth 20000 in
theorem q_X13_acts_0 (X : Nat × (Nat → Int32)) (C : sm_C) (i0 : Nat) (s : sm_S) : sm_go (sm_ZZ X) sm_PP true C 228 0 [vP (23, i0), vU, vU, vU, vU, vU] [] s =
  sm_bI (C 234 [vP (23, i0)] s) sm_tw fun y1 s2 =>
  sm_bI (C 204 [vP (23, i0), vI 61] s2) sm_tw fun y3 s4 =>
  if y3 = 0 then
   (sm_bI (C 204 [vP (23, i0), vI 59] s4) sm_tw fun y5 s6 =>
   if y5 = 0 then
    (sm_go (sm_ZZ X) sm_PP true C 228 179 [vP (23, i0), vI y1, vI (s2.1 23 i0 20), vI (s2.1 23 i0 22), vU, vU] [vI 0, vP (23, i0)] s6)
   else
    (if (s2.1 23 i0 20) = 4 then
     (sm_go (sm_ZZ X) sm_PP true C 228 179 [vP (23, i0), vI y1, vI (s2.1 23 i0 20), vI (s2.1 23 i0 22), vU, vU] [vI 1, vP (23, i0)] s6)
    else
     (sm_go (sm_ZZ X) sm_PP true C 228 179 [vP (23, i0), vI y1, vI (s2.1 23 i0 20), vI (s2.1 23 i0 22), vU, vU] [vI 0, vP (23, i0)] s6)))
  else
   (if (s2.1 23 i0 20) = 1 then
    (sm_go (sm_ZZ X) sm_PP true C 228 51 [vP (23, i0), vI y1, vI (s2.1 23 i0 20), vI (s2.1 23 i0 22), vI (s4.1 23 i0 11), vU] [vI 1, vP (23, i0)] s4)
   else
    (if (s2.1 23 i0 20) = 2 then
     (sm_go (sm_ZZ X) sm_PP true C 228 51 [vP (23, i0), vI y1, vI (s2.1 23 i0 20), vI (s2.1 23 i0 22), vI (s4.1 23 i0 11), vU] [vI 1, vP (23, i0)] s4)
    else
     (if (s2.1 23 i0 20) = 3 then
      (sm_go (sm_ZZ X) sm_PP true C 228 51 [vP (23, i0), vI y1, vI (s2.1 23 i0 20), vI (s2.1 23 i0 22), vI (s4.1 23 i0 11), vU] [vI 1, vP (23, i0)] s4)
     else
      (sm_go (sm_ZZ X) sm_PP true C 228 51 [vP (23, i0), vI y1, vI (s2.1 23 i0 20), vI (s2.1 23 i0 22), vI (s4.1 23 i0 11), vU] [vI 0, vP (23, i0)] s4)))) :=
  (sm_go_x (cd := cd_X13_acts) rfl h_X13_acts 400 0 _ _ _).trans rfl
set_option maxRecDepth 20000 in
theorem q_X13_acts_51 (X : Nat × (Nat → Int32)) (C : sm_C) (i0 : Nat) (x1 : Int32) (x2 : Int32) (x3 : Int32) (x4 : Int32) (d5 : sm_V) (q100 : Nat × Nat) (x101 : Int32) (s : sm_S) : sm_go (sm_ZZ X) sm_PP true C 228 51 [vP (23, i0), vI x1, vI x2, vI x3, vI x4, d5] [vI x101, vP q100] s =
  if q100.1 = 23 then
   (sm_bV (C 201 [vP q100, vI x101] s) sm_tw fun s2 =>
  if x2 = 3 then
   (if x3 = 2 then
    (sm_go (sm_ZZ X) sm_PP true C 228 80 [vP (23, i0), vI x1, vI x2, vI x3, vI x4, vU] [vI 0, vP (23, i0)] s2)
   else
    (if x3 = 3 then
     (sm_go (sm_ZZ X) sm_PP true C 228 80 [vP (23, i0), vI x1, vI x2, vI x3, vI x4, vU] [vI 0, vP (23, i0)] s2)
    else
     (if x3 = 4 then
      (sm_go (sm_ZZ X) sm_PP true C 228 80 [vP (23, i0), vI x1, vI x2, vI x3, vI x4, vU] [vI 0, vP (23, i0)] s2)
     else
      (sm_go (sm_ZZ X) sm_PP true C 228 80 [vP (23, i0), vI x1, vI x2, vI x3, vI x4, vU] [vI 1, vP (23, i0)] s2))))
  else
   (sm_go (sm_ZZ X) sm_PP true C 228 80 [vP (23, i0), vI x1, vI x2, vI x3, vI x4, vU] [vI 1, vP (23, i0)] s2))
  else none :=
  (sm_go_x (cd := cd_X13_acts) rfl h_X13_acts 400 51 _ _ _).trans rfl
set_option maxRecDepth 20000 in
theorem q_X13_acts_80 (X : Nat × (Nat → Int32)) (C : sm_C) (i0 : Nat) (x1 : Int32) (x2 : Int32) (x3 : Int32) (x4 : Int32) (d5 : sm_V) (q100 : Nat × Nat) (x101 : Int32) (s : sm_S) : sm_go (sm_ZZ X) sm_PP true C 228 80 [vP (23, i0), vI x1, vI x2, vI x3, vI x4, d5] [vI x101, vP q100] s =
  if q100.1 = 23 then
   (sm_bV (C 202 [vP q100, vI x101, vI (s.1 23 i0 11)] s) sm_tw fun s2 =>
  sm_bV (C 203 [vP (23, i0)] (sI s2 23 i0 21 0)) sm_tw fun s4 =>
  sm_bI (C 230 [vP (23, i0)] s4) sm_tw fun y5 s6 =>
  sm_bI (C 204 [vP (23, i0), vI 59] s6) sm_tw fun y7 s8 =>
  sm_bV (C 201 [vP (23, i0), vI y7] s8) sm_tw fun s10 =>
  sm_bI (C 185 [vI y5, vI x1] s10) sm_tw fun y11 s12 =>
  sm_bV (C 202 [vP (23, i0), vI y11, vI (s12.1 23 i0 11)] s12) sm_tw fun s14 =>
  if x2 = 1 then
   (sm_bI (C 207 [vP (23, i0), vI 2, vI x3, vI x4] s14) sm_tw fun y15 s16 =>
   sm_bV (C 203 [vP (23, i0)] s16) sm_tw fun s18 =>
   some (some none, s18))
  else
   (if x2 = 2 then
    (sm_bI (C 207 [vP (23, i0), vI 4, vI x3, vI x4] s14) sm_tw fun y19 s20 =>
    sm_bV (C 203 [vP (23, i0)] s20) sm_tw fun s22 =>
    some (some none, s22))
   else
    (sm_bI (C 207 [vP (23, i0), vI 6, vI x3, vI x4] s14) sm_tw fun y23 s24 =>
    sm_bV (C 203 [vP (23, i0)] s24) sm_tw fun s26 =>
    some (some none, s26))))
  else none :=
  (sm_go_x (cd := cd_X13_acts) rfl h_X13_acts 400 80 _ _ _).trans rfl
set_option maxRecDepth 20000 in
theorem q_X13_acts_179 (X : Nat × (Nat → Int32)) (C : sm_C) (i0 : Nat) (x1 : Int32) (d2 : sm_V) (d3 : sm_V) (d4 : sm_V) (d5 : sm_V) (q100 : Nat × Nat) (x101 : Int32) (s : sm_S) : sm_go (sm_ZZ X) sm_PP true C 228 179 [vP (23, i0), vI x1, d2, d3, d4, d5] [vI x101, vP q100] s =
  if q100.1 = 23 then
   (sm_bV (C 201 [vP q100, vI x101] s) sm_tw fun s2 =>
  if x1 = 38 then
   (sm_bV (C 203 [vP (23, i0)] s2) sm_tw fun s4 =>
   some (some none, s4))
  else
   (sm_bI (C 207 [vP (23, i0), vI 25, vI 0, vI (-1)] s2) sm_tw fun y5 s6 =>
   sm_bV (C 203 [vP (23, i0)] s6) sm_tw fun s8 =>
   some (some none, s8)))
  else none :=
  (sm_go_x (cd := cd_X13_acts) rfl h_X13_acts 400 179 _ _ _).trans rfl
theorem h_X13_opens : sm_chain 0 cd_X13_opens = true := by decide +kernel
set_option maxRecDepth 20000 in
theorem q_X13_opens_0 (X : Nat × (Nat → Int32)) (C : sm_C) (i0 : Nat) (x1 : Int32) (s : sm_S) : sm_go (sm_ZZ X) sm_PP true C 229 0 [vP (23, i0), vI x1] [] s =
  sm_bI (C 204 [vP (23, i0), vI x1] s) sm_tw fun y1 s2 =>
  if y1 = 0 then
   (sm_go (sm_ZZ X) sm_PP true C 229 23 [vP (23, i0), vI x1] [vI 0, vP (23, i0)] s2)
  else
   (if (s2.1 23 i0 13) < 10 then
    (sm_go (sm_ZZ X) sm_PP true C 229 23 [vP (23, i0), vI x1] [vI 1, vP (23, i0)] s2)
   else
    (sm_go (sm_ZZ X) sm_PP true C 229 23 [vP (23, i0), vI x1] [vI 0, vP (23, i0)] s2)) :=
  (sm_go_x (cd := cd_X13_opens) rfl h_X13_opens 400 0 _ _ _).trans rfl
set_option maxRecDepth 20000 in
theorem q_X13_opens_23 (X : Nat × (Nat → Int32)) (C : sm_C) (i0 : Nat) (d1 : sm_V) (q100 : Nat × Nat) (x101 : Int32) (s : sm_S) : sm_go (sm_ZZ X) sm_PP true C 229 23 [vP (23, i0), d1] [vI x101, vP q100] s =
  if q100.1 = 23 then
   (sm_bV (C 201 [vP q100, vI x101] s) sm_tw fun s2 =>
  sm_bV (C 203 [vP (23, i0)] (sI s2 23 i0 13 ((s2.1 23 i0 13) + 1))) sm_tw fun s4 =>
  some (some none, s4))
  else none :=
  (sm_go_x (cd := cd_X13_opens) rfl h_X13_opens 400 23 _ _ _).trans rfl
theorem h_X13_e : sm_chain 0 cd_X13_e = true := by decide +kernel
set_option maxRecDepth 20000 in
theorem q_X13_e_0 (X : Nat × (Nat → Int32)) (C : sm_C) (i0 : Nat) (s : sm_S) : sm_go (sm_ZZ X) sm_PP true C 230 0 [vP (23, i0), vU, vU, vU, vU] [] s =
  sm_bI (C 231 [vP (23, i0)] s) sm_tw fun y1 s2 =>
  sm_bI (C 204 [vP (23, i0), vI 300] s2) sm_tw fun y3 s4 =>
  if y3 = 0 then
   (sm_bI (C 204 [vP (23, i0), vI 301] s4) sm_tw fun y5 s6 =>
   if y5 = 0 then
    (sm_bI (C 204 [vP (23, i0), vI 60] s6) sm_tw fun y7 s8 =>
    if y7 = 0 then
     (some (some (some (vI y1)), s8))
    else
     (sm_go (sm_ZZ X) sm_PP true C 230 36 [vP (23, i0), vI y1, vU, vU, vU] [] s8))
   else
    (sm_go (sm_ZZ X) sm_PP true C 230 36 [vP (23, i0), vI y1, vU, vU, vU] [] s6))
  else
   (sm_go (sm_ZZ X) sm_PP true C 230 36 [vP (23, i0), vI y1, vU, vU, vU] [] s4) :=
  (sm_go_x (cd := cd_X13_e) rfl h_X13_e 400 0 _ _ _).trans rfl
set_option maxRecDepth 20000 in
theorem q_X13_e_36 (X : Nat × (Nat → Int32)) (C : sm_C) (i0 : Nat) (x1 : Int32) (d2 : sm_V) (d3 : sm_V) (d4 : sm_V) (s : sm_S) : sm_go (sm_ZZ X) sm_PP true C 230 36 [vP (23, i0), vI x1, d2, d3, d4] [] s =
  sm_bI (C 204 [vP (23, i0), vI 300] s) sm_tw fun y1 s2 =>
  if y1 = 0 then
   (sm_bI (C 204 [vP (23, i0), vI 301] s2) sm_tw fun y3 s4 =>
   if y3 = 0 then
    (sm_go (sm_ZZ X) sm_PP true C 230 73 [vP (23, i0), vI x1, vI (s.1 23 i0 11), vU, vU] [vI 15] s4)
   else
    (sm_go (sm_ZZ X) sm_PP true C 230 73 [vP (23, i0), vI x1, vI (s.1 23 i0 11), vU, vU] [vI 14] s4))
  else
   (sm_go (sm_ZZ X) sm_PP true C 230 73 [vP (23, i0), vI x1, vI (s.1 23 i0 11), vU, vU] [vI 13] s2) :=
  (sm_go_x (cd := cd_X13_e) rfl h_X13_e 400 36 _ _ _).trans rfl
set_option maxRecDepth 20000 in
theorem q_X13_e_73 (X : Nat × (Nat → Int32)) (C : sm_C) (i0 : Nat) (x1 : Int32) (x2 : Int32) (d3 : sm_V) (d4 : sm_V) (x100 : Int32) (s : sm_S) : sm_go (sm_ZZ X) sm_PP true C 230 73 [vP (23, i0), vI x1, vI x2, d3, d4] [vI x100] s =
  if x1 = 36 then
   (sm_go (sm_ZZ X) sm_PP true C 230 99 [vP (23, i0), vI x1, vI x2, vI x100, vU] [vI 1, vP (23, i0)] s)
  else
   (if x100 = 15 then
    (sm_go (sm_ZZ X) sm_PP true C 230 99 [vP (23, i0), vI x1, vI x2, vI x100, vU] [vI 0, vP (23, i0)] s)
   else
    (sm_bI (C 183 [vI x1] s) sm_tw fun y1 s2 =>
    if y1 = 0 then
     (sm_go (sm_ZZ X) sm_PP true C 230 99 [vP (23, i0), vI x1, vI x2, vI x100, vU] [vI 0, vP (23, i0)] s2)
    else
     (sm_go (sm_ZZ X) sm_PP true C 230 99 [vP (23, i0), vI x1, vI x2, vI x100, vU] [vI 1, vP (23, i0)] s2))) :=
  (sm_go_x (cd := cd_X13_e) rfl h_X13_e 400 73 _ _ _).trans rfl
set_option maxRecDepth 20000 in
theorem q_X13_e_99 (X : Nat × (Nat → Int32)) (C : sm_C) (i0 : Nat) (x1 : Int32) (x2 : Int32) (x3 : Int32) (d4 : sm_V) (q100 : Nat × Nat) (x101 : Int32) (s : sm_S) : sm_go (sm_ZZ X) sm_PP true C 230 99 [vP (23, i0), vI x1, vI x2, vI x3, d4] [vI x101, vP q100] s =
  if q100.1 = 23 then
   (sm_bV (C 202 [vP q100, vI x101, vI x2] s) sm_tw fun s2 =>
  sm_bV (C 203 [vP (23, i0)] s2) sm_tw fun s4 =>
  sm_bI (C 231 [vP (23, i0)] s4) sm_tw fun y5 s6 =>
  if x1 = 36 then
   (if y5 = 36 then
    (sm_go (sm_ZZ X) sm_PP true C 230 140 [vP (23, i0), vI x1, vI x2, vI x3, vI y5] [vI 1, vP (23, i0)] s6)
   else
    (sm_go (sm_ZZ X) sm_PP true C 230 140 [vP (23, i0), vI x1, vI x2, vI x3, vI y5] [vI 0, vP (23, i0)] s6))
  else
   (sm_bI (C 183 [vI y5] s6) sm_tw fun y7 s8 =>
   sm_go (sm_ZZ X) sm_PP true C 230 140 [vP (23, i0), vI x1, vI x2, vI x3, vI y5] [vI y7, vP (23, i0)] s8))
  else none :=
  (sm_go_x (cd := cd_X13_e) rfl h_X13_e 400 99 _ _ _).trans rfl
set_option maxRecDepth 20000 in
theorem q_X13_e_140 (X : Nat × (Nat → Int32)) (C : sm_C) (i0 : Nat) (d1 : sm_V) (x2 : Int32) (x3 : Int32) (d4 : sm_V) (q100 : Nat × Nat) (x101 : Int32) (s : sm_S) : sm_go (sm_ZZ X) sm_PP true C 230 140 [vP (23, i0), d1, vI x2, vI x3, d4] [vI x101, vP q100] s =
  if q100.1 = 23 then
   (sm_bV (C 202 [vP q100, vI x101, vI x2] s) sm_tw fun s2 =>
  sm_bI (C 207 [vP (23, i0), vI x3, vI 0, vI x2] s2) sm_tw fun y3 s4 =>
  some (some (some (vI 36)), s4))
  else none :=
  (sm_go_x (cd := cd_X13_e) rfl h_X13_e 400 140 _ _ _).trans rfl
theorem h_X13_sum : sm_chain 0 cd_X13_sum = true := by decide +kernel
set_option maxRecDepth 20000 in
theorem q_X13_sum_0 (X : Nat × (Nat → Int32)) (C : sm_C) (i0 : Nat) (s : sm_S) : sm_go (sm_ZZ X) sm_PP true C 231 0 [vP (23, i0), vU, vU, vU] [] s =
  sm_bI (C 232 [vP (23, i0)] s) sm_tw fun y1 s2 =>
  sm_go (sm_ZZ X) sm_PP true C 231 5 [vP (23, i0), vI y1, vU, vU] [] s2 :=
  (sm_go_x (cd := cd_X13_sum) rfl h_X13_sum 400 0 _ _ _).trans rfl
set_option maxRecDepth 20000 in
theorem q_X13_sum_5 (X : Nat × (Nat → Int32)) (C : sm_C) (i0 : Nat) (x1 : Int32) (d2 : sm_V) (d3 : sm_V) (s : sm_S) : sm_go (sm_ZZ X) sm_PP true C 231 5 [vP (23, i0), vI x1, d2, d3] [] s =
  sm_bI (C 204 [vP (23, i0), vI 43] s) sm_tw fun y1 s2 =>
  if y1 = 0 then
   (sm_bI (C 204 [vP (23, i0), vI 45] s2) sm_tw fun y3 s4 =>
   if y3 = 0 then
    (some (some (some (vI x1)), s4))
   else
    (sm_go (sm_ZZ X) sm_PP true C 231 23 [vP (23, i0), vI x1, vU, vU] [] s4))
  else
   (sm_go (sm_ZZ X) sm_PP true C 231 23 [vP (23, i0), vI x1, vU, vU] [] s2) :=
  (sm_go_x (cd := cd_X13_sum) rfl h_X13_sum 400 5 _ _ _).trans rfl
set_option maxRecDepth 20000 in
theorem q_X13_sum_23 (X : Nat × (Nat → Int32)) (C : sm_C) (i0 : Nat) (x1 : Int32) (d2 : sm_V) (d3 : sm_V) (s : sm_S) : sm_go (sm_ZZ X) sm_PP true C 231 23 [vP (23, i0), vI x1, d2, d3] [] s =
  sm_bI (C 204 [vP (23, i0), vI 43] s) sm_tw fun y1 s2 =>
  if y1 = 0 then
   (sm_go (sm_ZZ X) sm_PP true C 231 44 [vP (23, i0), vI x1, vI (s.1 23 i0 11), vU] [vI 11] s2)
  else
   (sm_go (sm_ZZ X) sm_PP true C 231 44 [vP (23, i0), vI x1, vI (s.1 23 i0 11), vU] [vI 10] s2) :=
  (sm_go_x (cd := cd_X13_sum) rfl h_X13_sum 400 23 _ _ _).trans rfl
set_option maxRecDepth 20000 in
theorem q_X13_sum_44 (X : Nat × (Nat → Int32)) (C : sm_C) (i0 : Nat) (x1 : Int32) (x2 : Int32) (d3 : sm_V) (x100 : Int32) (s : sm_S) : sm_go (sm_ZZ X) sm_PP true C 231 44 [vP (23, i0), vI x1, vI x2, d3] [vI x100] s =
  if x1 = 36 then
   (sm_go (sm_ZZ X) sm_PP true C 231 57 [vP (23, i0), vI x1, vI x2, vI x100] [vI 1, vP (23, i0)] s)
  else
   (sm_go (sm_ZZ X) sm_PP true C 231 57 [vP (23, i0), vI x1, vI x2, vI x100] [vI 0, vP (23, i0)] s) :=
  (sm_go_x (cd := cd_X13_sum) rfl h_X13_sum 400 44 _ _ _).trans rfl
set_option maxRecDepth 20000 in
theorem q_X13_sum_57 (X : Nat × (Nat → Int32)) (C : sm_C) (i0 : Nat) (d1 : sm_V) (x2 : Int32) (x3 : Int32) (q100 : Nat × Nat) (x101 : Int32) (s : sm_S) : sm_go (sm_ZZ X) sm_PP true C 231 57 [vP (23, i0), d1, vI x2, vI x3] [vI x101, vP q100] s =
  if q100.1 = 23 then
   (sm_bV (C 202 [vP q100, vI x101, vI x2] s) sm_tw fun s2 =>
  sm_bV (C 203 [vP (23, i0)] s2) sm_tw fun s4 =>
  sm_bI (C 232 [vP (23, i0)] s4) sm_tw fun y5 s6 =>
  if y5 = 36 then
   (sm_go (sm_ZZ X) sm_PP true C 231 82 [vP (23, i0), vI y5, vI x2, vI x3] [vI 1, vP (23, i0)] s6)
  else
   (sm_go (sm_ZZ X) sm_PP true C 231 82 [vP (23, i0), vI y5, vI x2, vI x3] [vI 0, vP (23, i0)] s6))
  else none :=
  (sm_go_x (cd := cd_X13_sum) rfl h_X13_sum 400 57 _ _ _).trans rfl
set_option maxRecDepth 20000 in
theorem q_X13_sum_82 (X : Nat × (Nat → Int32)) (C : sm_C) (i0 : Nat) (x1 : Int32) (x2 : Int32) (x3 : Int32) (q100 : Nat × Nat) (x101 : Int32) (s : sm_S) : sm_go (sm_ZZ X) sm_PP true C 231 82 [vP (23, i0), vI x1, vI x2, vI x3] [vI x101, vP q100] s =
  if q100.1 = 23 then
   (sm_bV (C 202 [vP q100, vI x101, vI x2] s) sm_tw fun s2 =>
  sm_bI (C 207 [vP (23, i0), vI x3, vI 0, vI x2] s2) sm_tw fun y3 s4 =>
  sm_go (sm_ZZ X) sm_PP true C 231 5 [vP (23, i0), vI x1, vI x2, vI x3] [] s4)
  else none :=
  (sm_go_x (cd := cd_X13_sum) rfl h_X13_sum 400 82 _ _ _).trans rfl
theorem h_X13_product : sm_chain 0 cd_X13_product = true := by decide +kernel
set_option maxRecDepth 20000 in
theorem q_X13_product_0 (X : Nat × (Nat → Int32)) (C : sm_C) (i0 : Nat) (s : sm_S) : sm_go (sm_ZZ X) sm_PP true C 232 0 [vP (23, i0), vU, vU] [] s =
  sm_bI (C 233 [vP (23, i0)] s) sm_tw fun y1 s2 =>
  sm_go (sm_ZZ X) sm_PP true C 232 5 [vP (23, i0), vI y1, vU] [] s2 :=
  (sm_go_x (cd := cd_X13_product) rfl h_X13_product 400 0 _ _ _).trans rfl
set_option maxRecDepth 20000 in
theorem q_X13_product_5 (X : Nat × (Nat → Int32)) (C : sm_C) (i0 : Nat) (x1 : Int32) (d2 : sm_V) (s : sm_S) : sm_go (sm_ZZ X) sm_PP true C 232 5 [vP (23, i0), vI x1, d2] [] s =
  sm_bI (C 204 [vP (23, i0), vI 42] s) sm_tw fun y1 s2 =>
  if y1 = 0 then
   (some (some (some (vI x1)), s2))
  else
   (if x1 = 36 then
    (sm_go (sm_ZZ X) sm_PP true C 232 31 [vP (23, i0), vI x1, vI (s2.1 23 i0 11)] [vI 1, vP (23, i0)] s2)
   else
    (sm_go (sm_ZZ X) sm_PP true C 232 31 [vP (23, i0), vI x1, vI (s2.1 23 i0 11)] [vI 0, vP (23, i0)] s2)) :=
  (sm_go_x (cd := cd_X13_product) rfl h_X13_product 400 5 _ _ _).trans rfl
set_option maxRecDepth 20000 in
theorem q_X13_product_31 (X : Nat × (Nat → Int32)) (C : sm_C) (i0 : Nat) (d1 : sm_V) (x2 : Int32) (q100 : Nat × Nat) (x101 : Int32) (s : sm_S) : sm_go (sm_ZZ X) sm_PP true C 232 31 [vP (23, i0), d1, vI x2] [vI x101, vP q100] s =
  if q100.1 = 23 then
   (sm_bV (C 202 [vP q100, vI x101, vI x2] s) sm_tw fun s2 =>
  sm_bV (C 203 [vP (23, i0)] s2) sm_tw fun s4 =>
  sm_bI (C 233 [vP (23, i0)] s4) sm_tw fun y5 s6 =>
  if y5 = 36 then
   (sm_go (sm_ZZ X) sm_PP true C 232 56 [vP (23, i0), vI y5, vI x2] [vI 1, vP (23, i0)] s6)
  else
   (sm_go (sm_ZZ X) sm_PP true C 232 56 [vP (23, i0), vI y5, vI x2] [vI 0, vP (23, i0)] s6))
  else none :=
  (sm_go_x (cd := cd_X13_product) rfl h_X13_product 400 31 _ _ _).trans rfl
set_option maxRecDepth 20000 in
theorem q_X13_product_56 (X : Nat × (Nat → Int32)) (C : sm_C) (i0 : Nat) (x1 : Int32) (x2 : Int32) (q100 : Nat × Nat) (x101 : Int32) (s : sm_S) : sm_go (sm_ZZ X) sm_PP true C 232 56 [vP (23, i0), vI x1, vI x2] [vI x101, vP q100] s =
  if q100.1 = 23 then
   (sm_bV (C 202 [vP q100, vI x101, vI x2] s) sm_tw fun s2 =>
  sm_bI (C 207 [vP (23, i0), vI 12, vI 0, vI x2] s2) sm_tw fun y3 s4 =>
  sm_go (sm_ZZ X) sm_PP true C 232 5 [vP (23, i0), vI x1, vI x2] [] s4)
  else none :=
  (sm_go_x (cd := cd_X13_product) rfl h_X13_product 400 56 _ _ _).trans rfl
theorem h_X13_unitValue : sm_chain 0 cd_X13_unitValue = true := by decide +kernel
set_option maxRecDepth 20000 in
theorem q_X13_unitValue_0 (X : Nat × (Nat → Int32)) (C : sm_C) (i0 : Nat) (s : sm_S) : sm_go (sm_ZZ X) sm_PP true C 233 0 [vP (23, i0), vU] [] s =
  sm_bI (C 234 [vP (23, i0)] s) sm_tw fun y1 s2 =>
  sm_bV (C 227 [vP (23, i0)] s2) sm_tw fun s4 =>
  some (some (some (vI y1)), s4) :=
  (sm_go_x (cd := cd_X13_unitValue) rfl h_X13_unitValue 400 0 _ _ _).trans rfl
theorem h_X13_unit : sm_chain 0 cd_X13_unit = true := by decide +kernel
set_option maxRecDepth 20000 in
theorem q_X13_unit_0 (X : Nat × (Nat → Int32)) (C : sm_C) (i0 : Nat) (s : sm_S) : sm_go (sm_ZZ X) sm_PP true C 234 0 [vP (23, i0), vU, vU] [] s =
  sm_bI (C 236 [vP (23, i0)] s) sm_tw fun y1 s2 =>
  sm_go (sm_ZZ X) sm_PP true C 234 7 [vP (23, i0), vI y1, vI 1] [] s2 :=
  (sm_go_x (cd := cd_X13_unit) rfl h_X13_unit 400 0 _ _ _).trans rfl
set_option maxRecDepth 20000 in
theorem q_X13_unit_7 (X : Nat × (Nat → Int32)) (C : sm_C) (i0 : Nat) (x1 : Int32) (x2 : Int32) (s : sm_S) : sm_go (sm_ZZ X) sm_PP true C 234 7 [vP (23, i0), vI x1, vI x2] [] s =
  if x2 = 0 then
   (some (some (some (vI x1)), s))
  else
   (sm_bI (C 204 [vP (23, i0), vI 91] s) sm_tw fun y1 s2 =>
   if y1 = 0 then
    (sm_bI (C 204 [vP (23, i0), vI 46] s2) sm_tw fun y3 s4 =>
    if y3 = 0 then
     (sm_bI (C 205 [vP (23, i0), vI 13] s4) sm_tw fun y5 s6 =>
     if y5 = 0 then
      (sm_bI (C 205 [vP (23, i0), vI 12] s6) sm_tw fun y7 s8 =>
      if y7 = 0 then
       (sm_go (sm_ZZ X) sm_PP true C 234 7 [vP (23, i0), vI x1, vI 0] [] s8)
      else
       (sm_bI (C 245 [vP (23, i0), vI x1] s8) sm_tw fun y9 s10 =>
       sm_go (sm_ZZ X) sm_PP true C 234 7 [vP (23, i0), vI y9, vI x2] [] s10))
     else
      (sm_bI (C 245 [vP (23, i0), vI x1] s6) sm_tw fun y11 s12 =>
      sm_go (sm_ZZ X) sm_PP true C 234 7 [vP (23, i0), vI y11, vI x2] [] s12))
    else
     (sm_bI (C 244 [vP (23, i0), vI x1] s4) sm_tw fun y13 s14 =>
     sm_go (sm_ZZ X) sm_PP true C 234 7 [vP (23, i0), vI y13, vI x2] [] s14))
   else
    (sm_bI (C 241 [vP (23, i0), vI x1] s2) sm_tw fun y15 s16 =>
    sm_go (sm_ZZ X) sm_PP true C 234 7 [vP (23, i0), vI y15, vI x2] [] s16)) :=
  (sm_go_x (cd := cd_X13_unit) rfl h_X13_unit 400 7 _ _ _).trans rfl
theorem h_X13_number : sm_chain 0 cd_X13_number = true := by decide +kernel
set_option maxRecDepth 20000 in
theorem q_X13_number_0 (X : Nat × (Nat → Int32)) (C : sm_C) (i0 : Nat) (x1 : Int32) (x2 : Int32) (s : sm_S) : sm_go (sm_ZZ X) sm_PP true C 235 0 [vP (23, i0), vI x1, vI x2] [] s =
  if x2 = 0 then
   (sm_ix (s.1 23 i0 11) 803 fun z1 =>
   sm_bI (C 207 [vP (23, i0), vI 0, vI (Int64.toInt32 (s.2.1 70 i0 z1)), vI x1] s) sm_tw fun y2 s3 =>
   sm_bV (C 203 [vP (23, i0)] s3) sm_tw fun s5 =>
   some (some (some (vI 36)), s5))
  else
   (sm_ix (s.1 23 i0 11) 803 fun z6 =>
   sm_bI (C 207 [vP (23, i0), vI 0, vI (Int64.toInt32 (-(s.2.1 70 i0 z6))), vI x1] s) sm_tw fun y7 s8 =>
   sm_bV (C 203 [vP (23, i0)] s8) sm_tw fun s10 =>
   some (some (some (vI 36)), s10)) :=
  (sm_go_x (cd := cd_X13_number) rfl h_X13_number 400 0 _ _ _).trans rfl
theorem h_X13_first : sm_chain 0 cd_X13_first = true := by decide +kernel
set_option maxRecDepth 20000 in
theorem q_X13_first_0 (X : Nat × (Nat → Int32)) (C : sm_C) (i0 : Nat) (s : sm_S) : sm_go (sm_ZZ X) sm_PP true C 236 0 [vP (23, i0), vU, vU] [] s =
  sm_ix ((sI (sI s 23 i0 20 0) 23 i0 21 0).1 23 i0 11) 803 fun z1 =>
  if ((sI (sI s 23 i0 20 0) 23 i0 21 0).1 68 i0 z1) = 3 then
   (sm_bI (C 235 [vP (23, i0), vI (s.1 23 i0 11), vI 0] (sI (sI s 23 i0 20 0) 23 i0 21 0)) sm_tw fun y2 s3 =>
   some (some (some (vI y2)), s3))
  else
   (sm_bI (C 204 [vP (23, i0), vI 45] (sI (sI s 23 i0 20 0) 23 i0 21 0)) sm_tw fun y4 s5 =>
   if y4 = 0 then
    (sm_bI (C 205 [vP (23, i0), vI 11] s5) sm_tw fun y6 s7 =>
    if y6 = 0 then
     (sm_bI (C 205 [vP (23, i0), vI 10] s7) sm_tw fun y8 s9 =>
     if y8 = 0 then
      (sm_bI (C 204 [vP (23, i0), vI 40] s9) sm_tw fun y10 s11 =>
      if y10 = 0 then
       (sm_ix (s11.1 23 i0 11) 803 fun z12 =>
       if (s11.1 68 i0 z12) = 1 then
        (sm_go (sm_ZZ X) sm_PP true C 236 185 [vP (23, i0), vI (s.1 23 i0 11), vU] [vI 1, vP (23, i0)] s11)
       else
        (sm_go (sm_ZZ X) sm_PP true C 236 185 [vP (23, i0), vI (s.1 23 i0 11), vU] [vI 0, vP (23, i0)] s11))
      else
       (sm_bV (C 229 [vP (23, i0), vI 40] s11) sm_tw fun s14 =>
       sm_bI (C 230 [vP (23, i0)] s14) sm_tw fun y15 s16 =>
       sm_bI (C 204 [vP (23, i0), vI 41] s16) sm_tw fun y17 s18 =>
       sm_bV (C 201 [vP (23, i0), vI y17] s18) sm_tw fun s20 =>
       sm_bV (C 203 [vP (23, i0)] (sI s20 23 i0 13 ((s20.1 23 i0 13) - 1))) sm_tw fun s22 =>
       some (some (some (vI y15)), (sI s22 23 i0 20 0))))
     else
      (sm_bI (C 237 [vP (23, i0)] s9) sm_tw fun y23 s24 =>
      some (some (some (vI y23)), s24)))
    else
     (sm_bI (C 207 [vP (23, i0), vI 0, vI 0, vI (s.1 23 i0 11)] s7) sm_tw fun y25 s26 =>
     sm_bV (C 203 [vP (23, i0)] s26) sm_tw fun s28 =>
     some (some (some (vI 37)), s28)))
   else
    (sm_bV (C 203 [vP (23, i0)] s5) sm_tw fun s30 =>
    sm_ix (s30.1 23 i0 11) 803 fun z31 =>
    if (s30.1 68 i0 z31) = 3 then
     (sm_bV (C 201 [vP (23, i0), vI 1] s30) sm_tw fun s33 =>
     sm_bI (C 235 [vP (23, i0), vI (s.1 23 i0 11), vI 1] s33) sm_tw fun y34 s35 =>
     some (some (some (vI y34)), s35))
    else
     (sm_bV (C 201 [vP (23, i0), vI 0] s30) sm_tw fun s37 =>
     sm_bI (C 235 [vP (23, i0), vI (s.1 23 i0 11), vI 1] s37) sm_tw fun y38 s39 =>
     some (some (some (vI y38)), s39)))) :=
  (sm_go_x (cd := cd_X13_first) rfl h_X13_first 400 0 _ _ _).trans rfl
set_option maxRecDepth 20000 in
theorem q_X13_first_185 (X : Nat × (Nat → Int32)) (C : sm_C) (i0 : Nat) (x1 : Int32) (d2 : sm_V) (q100 : Nat × Nat) (x101 : Int32) (s : sm_S) : sm_go (sm_ZZ X) sm_PP true C 236 185 [vP (23, i0), vI x1, d2] [vI x101, vP q100] s =
  if q100.1 = 23 then
   (sm_bV (C 201 [vP q100, vI x101] s) sm_tw fun s2 =>
  sm_ix ((s2.1 23 i0 11) + 1) 803 fun z3 =>
  if (s2.1 68 i0 z3) = 4 then
   (sm_ix ((s2.1 23 i0 11) + 1) 803 fun z4 =>
   if (lg_cmp (s2.2.1 70 i0 z4) 40) = 0 then
    (sm_bI (C 240 [vP (23, i0)] s2) sm_tw fun y5 s6 =>
    some (some (some (vI y5)), s6))
   else
    (sm_go (sm_ZZ X) sm_PP true C 236 226 [vP (23, i0), vI x1, vU] [] s2))
  else
   (sm_go (sm_ZZ X) sm_PP true C 236 226 [vP (23, i0), vI x1, vU] [] s2))
  else none :=
  (sm_go_x (cd := cd_X13_first) rfl h_X13_first 400 185 _ _ _).trans rfl
set_option maxRecDepth 20000 in
theorem q_X13_first_226 (X : Nat × (Nat → Int32)) (C : sm_C) (i0 : Nat) (x1 : Int32) (d2 : sm_V) (s : sm_S) : sm_go (sm_ZZ X) sm_PP true C 236 226 [vP (23, i0), vI x1, d2] [] s =
  sm_ix (s.1 23 i0 11) 803 fun z1 =>
  sm_bI (C 213 [vP (23, i0), vL (s.2.1 70 i0 z1)] s) sm_tw fun y2 s3 =>
  if y2 = (-1) then
   (sm_bP (C 200 [vP (23, i0), vI 2, vI (s3.1 23 i0 11)] s3) sm_tw fun y4 s5 =>
   sm_rq y4 24 fun _ => sm_tw s5)
  else
   (sm_bV (C 203 [vP (23, i0)] s3) sm_tw fun s7 =>
   sm_ix y2 24 fun z8 =>
   sm_bV (C 226 [vP (23, i0), vI 1, vI (s7.1 73 i0 z8), vI x1] s7) sm_tw fun s10 =>
   sm_ix y2 24 fun z11 =>
   some (some (some (vI (s10.1 72 i0 z11))), s10)) :=
  (sm_go_x (cd := cd_X13_first) rfl h_X13_first 400 226 _ _ _).trans rfl
theorem h_X13_makes : sm_chain 0 cd_X13_makes = true := by decide +kernel
set_option maxRecDepth 20000 in
theorem q_X13_makes_0 (X : Nat × (Nat → Int32)) (C : sm_C) (i0 : Nat) (s : sm_S) : sm_go (sm_ZZ X) sm_PP true C 237 0 [vP (23, i0), vU, vU, vU] [] s =
  sm_bV (C 203 [vP (23, i0)] s) sm_tw fun s2 =>
  sm_ix (s2.1 23 i0 11) 803 fun z3 =>
  if (s2.1 68 i0 z3) = 2 then
   (sm_ix (s2.1 23 i0 11) 803 fun z4 =>
   if (lg_cmp (s2.2.1 70 i0 z4) 36) = 0 then
    (sm_go (sm_ZZ X) sm_PP true C 237 44 [vP (23, i0), vI (s.1 23 i0 11), vU, vU] [vI 0, vP (23, i0)] s2)
   else
    (sm_go (sm_ZZ X) sm_PP true C 237 44 [vP (23, i0), vI (s.1 23 i0 11), vU, vU] [vI 1, vP (23, i0)] s2))
  else
   (sm_go (sm_ZZ X) sm_PP true C 237 44 [vP (23, i0), vI (s.1 23 i0 11), vU, vU] [vI 0, vP (23, i0)] s2) :=
  (sm_go_x (cd := cd_X13_makes) rfl h_X13_makes 400 0 _ _ _).trans rfl
set_option maxRecDepth 20000 in
theorem q_X13_makes_44 (X : Nat × (Nat → Int32)) (C : sm_C) (i0 : Nat) (x1 : Int32) (d2 : sm_V) (d3 : sm_V) (q100 : Nat × Nat) (x101 : Int32) (s : sm_S) : sm_go (sm_ZZ X) sm_PP true C 237 44 [vP (23, i0), vI x1, d2, d3] [vI x101, vP q100] s =
  if q100.1 = 23 then
   (sm_bV (C 201 [vP q100, vI x101] s) sm_tw fun s2 =>
  sm_ix (s2.1 23 i0 11) 803 fun z3 =>
  sm_bV (C 203 [vP (23, i0)] s2) sm_tw fun s5 =>
  sm_bI (C 204 [vP (23, i0), vI 40] s5) sm_tw fun y6 s7 =>
  if y6 = 0 then
   (sm_go (sm_ZZ X) sm_PP true C 237 118 [vP (23, i0), vI x1, vI (Int64.toInt32 (s2.2.1 70 i0 z3)), vU] [] s7)
  else
   (if (Int64.toInt32 (s2.2.1 70 i0 z3)) < 13 then
    (sm_bV (C 229 [vP (23, i0), vI 40] s7) sm_tw fun s9 =>
    sm_bI (C 204 [vP (23, i0), vI 41] s9) sm_tw fun y10 s11 =>
    sm_bV (C 201 [vP (23, i0), vI y10] s11) sm_tw fun s13 =>
    sm_bV (C 203 [vP (23, i0)] (sI s13 23 i0 13 ((s13.1 23 i0 13) - 1))) sm_tw fun s15 =>
    sm_bI (C 207 [vP (23, i0), vI 16, vI (Int64.toInt32 (s2.2.1 70 i0 z3)), vI x1] s15) sm_tw fun y16 s17 =>
    some (some (some (vI (Int64.toInt32 (s2.2.1 70 i0 z3)))), s17))
   else
    (sm_go (sm_ZZ X) sm_PP true C 237 118 [vP (23, i0), vI x1, vI (Int64.toInt32 (s2.2.1 70 i0 z3)), vU] [] s7)))
  else none :=
  (sm_go_x (cd := cd_X13_makes) rfl h_X13_makes 400 44 _ _ _).trans rfl
set_option maxRecDepth 20000 in
theorem q_X13_makes_118 (X : Nat × (Nat → Int32)) (C : sm_C) (i0 : Nat) (x1 : Int32) (x2 : Int32) (d3 : sm_V) (s : sm_S) : sm_go (sm_ZZ X) sm_PP true C 237 118 [vP (23, i0), vI x1, vI x2, d3] [] s =
  sm_bV (C 229 [vP (23, i0), vI 91] s) sm_tw fun s2 =>
  sm_bI (C 230 [vP (23, i0)] s2) sm_tw fun y3 s4 =>
  sm_bI (C 204 [vP (23, i0), vI 93] s4) sm_tw fun y5 s6 =>
  sm_bV (C 201 [vP (23, i0), vI y5] s6) sm_tw fun s8 =>
  if y3 = 36 then
   (sm_go (sm_ZZ X) sm_PP true C 237 151 [vP (23, i0), vI x1, vI x2, vI y3] [vI 1, vP (23, i0)] s8)
  else
   (sm_go (sm_ZZ X) sm_PP true C 237 151 [vP (23, i0), vI x1, vI x2, vI y3] [vI 0, vP (23, i0)] s8) :=
  (sm_go_x (cd := cd_X13_makes) rfl h_X13_makes 400 118 _ _ _).trans rfl
set_option maxRecDepth 20000 in
theorem q_X13_makes_151 (X : Nat × (Nat → Int32)) (C : sm_C) (i0 : Nat) (x1 : Int32) (x2 : Int32) (d3 : sm_V) (q100 : Nat × Nat) (x101 : Int32) (s : sm_S) : sm_go (sm_ZZ X) sm_PP true C 237 151 [vP (23, i0), vI x1, vI x2, d3] [vI x101, vP q100] s =
  if q100.1 = 23 then
   (sm_bV (C 202 [vP q100, vI x101, vI (s.1 23 i0 11)] s) sm_tw fun s2 =>
  sm_bV (C 203 [vP (23, i0)] (sI s2 23 i0 13 ((s2.1 23 i0 13) - 1))) sm_tw fun s4 =>
  sm_bI (C 207 [vP (23, i0), vI 17, vI x2, vI x1] s4) sm_tw fun y5 s6 =>
  some (some (some (vI (18 + x2))), (sI s6 23 i0 20 0)))
  else none :=
  (sm_go_x (cd := cd_X13_makes) rfl h_X13_makes 400 151 _ _ _).trans rfl
end
