section
/-- nothing catches it here -/
def sm_tw : sm_S → sm_R := fun s => some (none, s)
theorem h_X0_clear : sm_chain 0 cd_X0_clear = true := by decide +kernel
set_option maxRecDepth 20000 in
theorem q_X0_clear_0 (X : Nat × (Nat → Int32)) (C : sm_C) (i0 : Nat) (s : sm_S) : sm_go (sm_ZZ X) sm_PP true C 1 0 [vP (10, i0)] [] s =
  some (some none, (sI (sI (sI (sI s 10 i0 11 0) 10 i0 9 5) 10 i0 10 0) 10 i0 12 (-1))) :=
  (sm_go_x (cd := cd_X0_clear) rfl h_X0_clear 400 0 _ _ _).trans rfl
theorem h_X0_ownProcs : sm_chain 0 cd_X0_ownProcs = true := by decide +kernel
set_option maxRecDepth 20000 in
theorem q_X0_ownProcs_0 (X : Nat × (Nat → Int32)) (C : sm_C) (i0 : Nat) (s : sm_S) : sm_go (sm_ZZ X) sm_PP true C 2 0 [vP (10, i0)] [] s =
  some (some (some (vI ((s.1 10 i0 9) - 5))), s) :=
  (sm_go_x (cd := cd_X0_ownProcs) rfl h_X0_ownProcs 400 0 _ _ _).trans rfl
theorem h_X0_isProc : sm_chain 0 cd_X0_isProc = true := by decide +kernel
set_option maxRecDepth 20000 in
theorem q_X0_isProc_0 (X : Nat × (Nat → Int32)) (C : sm_C) (i0 : Nat) (x1 : Int32) (s : sm_S) : sm_go (sm_ZZ X) sm_PP true C 3 0 [vP (10, i0), vI x1] [] s =
  if x1 < 0 then
   (some (some (some (vI 0)), s))
  else
   (if x1 < (s.1 10 i0 9) then
    (some (some (some (vI 1)), s))
   else
    (some (some (some (vI 0)), s))) :=
  (sm_go_x (cd := cd_X0_isProc) rfl h_X0_isProc 400 0 _ _ _).trans rfl
theorem h_X0_isOwnProc : sm_chain 0 cd_X0_isOwnProc = true := by decide +kernel
set_option maxRecDepth 20000 in
theorem q_X0_isOwnProc_0 (X : Nat × (Nat → Int32)) (C : sm_C) (i0 : Nat) (x1 : Int32) (s : sm_S) : sm_go (sm_ZZ X) sm_PP true C 4 0 [vP (10, i0), vI x1] [] s =
  if x1 < 5 then
   (some (some (some (vI 0)), s))
  else
   (if x1 < (s.1 10 i0 9) then
    (some (some (some (vI 1)), s))
   else
    (some (some (some (vI 0)), s))) :=
  (sm_go_x (cd := cd_X0_isOwnProc) rfl h_X0_isOwnProc 400 0 _ _ _).trans rfl
theorem h_X0_addProc : sm_chain 0 cd_X0_addProc = true := by decide +kernel
set_option maxRecDepth 20000 in
theorem q_X0_addProc_0 (X : Nat × (Nat → Int32)) (C : sm_C) (i0 : Nat) (s : sm_S) : sm_go (sm_ZZ X) sm_PP true C 5 0 [vP (10, i0)] [] s =
  if (s.1 10 i0 9) < 17 then
   (sm_ix (s.1 10 i0 9) 17 fun z1 =>
   sm_ix ((sI s 35 i0 z1 (s.1 10 i0 11)).1 10 i0 9) 17 fun z2 =>
   sm_ix ((sI (sI s 35 i0 z1 (s.1 10 i0 11)) 36 i0 z2 0).1 10 i0 9) 17 fun z3 =>
   some (some (some (vI (((sI (sI (sI (sI s 35 i0 z1 (s.1 10 i0 11)) 36 i0 z2 0) 38 i0 z3 38) 10 i0 9 (((sI (sI (sI s 35 i0 z1 (s.1 10 i0 11)) 36 i0 z2 0) 38 i0 z3 38).1 10 i0 9) + 1)).1 10 i0 9) - 1))), (sI (sI (sI (sI s 35 i0 z1 (s.1 10 i0 11)) 36 i0 z2 0) 38 i0 z3 38) 10 i0 9 (((sI (sI (sI s 35 i0 z1 (s.1 10 i0 11)) 36 i0 z2 0) 38 i0 z3 38).1 10 i0 9) + 1))))
  else
   (some (some (some (vI (-1))), s)) :=
  (sm_go_x (cd := cd_X0_addProc) rfl h_X0_addProc 400 0 _ _ _).trans rfl
theorem h_X0_addParameter : sm_chain 0 cd_X0_addParameter = true := by decide +kernel
set_option maxRecDepth 20000 in
theorem q_X0_addParameter_0 (X : Nat × (Nat → Int32)) (C : sm_C) (i0 : Nat) (x1 : Int32) (x2 : Int32) (s : sm_S) : sm_go (sm_ZZ X) sm_PP true C 6 0 [vP (10, i0), vI x1, vI x2] [] s =
  sm_bI (C 4 [vP (10, i0), vI x1] s) sm_tw fun y1 s2 =>
  if y1 = 0 then
   (some (some none, s2))
  else
   (sm_ix x1 17 fun z3 =>
   if (s2.1 36 i0 z3) < 4 then
    (sm_ix x1 17 fun z4 =>
    sm_ix ((x1 * 4) + (s2.1 36 i0 z4)) 68 fun z5 =>
    sm_ix x1 17 fun z6 =>
    sm_ix x1 17 fun z7 =>
    some (some none, (sI (sI s2 37 i0 z5 x2) 36 i0 z7 (((sI s2 37 i0 z5 x2).1 36 i0 z6) + 1))))
   else
    (some (some none, s2))) :=
  (sm_go_x (cd := cd_X0_addParameter) rfl h_X0_addParameter 400 0 _ _ _).trans rfl
theorem h_X0_setGiven : sm_chain 0 cd_X0_setGiven = true := by decide +kernel
set_option maxRecDepth 20000 in
theorem q_X0_setGiven_0 (X : Nat × (Nat → Int32)) (C : sm_C) (i0 : Nat) (x1 : Int32) (x2 : Int32) (s : sm_S) : sm_go (sm_ZZ X) sm_PP true C 7 0 [vP (10, i0), vI x1, vI x2] [] s =
  sm_bI (C 4 [vP (10, i0), vI x1] s) sm_tw fun y1 s2 =>
  if y1 = 0 then
   (some (some none, s2))
  else
   (sm_ix x1 17 fun z3 =>
   some (some none, (sI s2 38 i0 z3 x2))) :=
  (sm_go_x (cd := cd_X0_setGiven) rfl h_X0_setGiven 400 0 _ _ _).trans rfl
theorem h_X0_parameterCount : sm_chain 0 cd_X0_parameterCount = true := by decide +kernel
set_option maxRecDepth 20000 in
theorem q_X0_parameterCount_0 (X : Nat × (Nat → Int32)) (C : sm_C) (i0 : Nat) (x1 : Int32) (s : sm_S) : sm_go (sm_ZZ X) sm_PP true C 8 0 [vP (10, i0), vI x1] [] s =
  sm_bI (C 3 [vP (10, i0), vI x1] s) sm_tw fun y1 s2 =>
  if y1 = 0 then
   (some (some (some (vI 0)), s2))
  else
   (sm_ix x1 17 fun z3 =>
   some (some (some (vI (s2.1 36 i0 z3))), s2)) :=
  (sm_go_x (cd := cd_X0_parameterCount) rfl h_X0_parameterCount 400 0 _ _ _).trans rfl
theorem h_X0_parameter : sm_chain 0 cd_X0_parameter = true := by decide +kernel
set_option maxRecDepth 20000 in
theorem q_X0_parameter_0 (X : Nat × (Nat → Int32)) (C : sm_C) (i0 : Nat) (x1 : Int32) (x2 : Int32) (s : sm_S) : sm_go (sm_ZZ X) sm_PP true C 9 0 [vP (10, i0), vI x1, vI x2, vU] [] s =
  if x2 < 0 then
   (sm_go (sm_ZZ X) sm_PP true C 9 18 [vP (10, i0), vI x1, vI x2, vU] [vI 0] s)
  else
   (sm_bI (C 8 [vP (10, i0), vI x1] s) sm_tw fun y1 s2 =>
   if x2 < y1 then
    (sm_go (sm_ZZ X) sm_PP true C 9 18 [vP (10, i0), vI x1, vI x2, vU] [vI 1] s2)
   else
    (sm_go (sm_ZZ X) sm_PP true C 9 18 [vP (10, i0), vI x1, vI x2, vU] [vI 0] s2)) :=
  (sm_go_x (cd := cd_X0_parameter) rfl h_X0_parameter 400 0 _ _ _).trans rfl
set_option maxRecDepth 20000 in
theorem q_X0_parameter_18 (X : Nat × (Nat → Int32)) (C : sm_C) (i0 : Nat) (x1 : Int32) (x2 : Int32) (d3 : sm_V) (x100 : Int32) (s : sm_S) : sm_go (sm_ZZ X) sm_PP true C 9 18 [vP (10, i0), vI x1, vI x2, d3] [vI x100] s =
  if x100 = 0 then
   (some (some (some (vI 38)), s))
  else
   (sm_ix ((x1 * 4) + x2) 68 fun z1 =>
   some (some (some (vI (s.1 37 i0 z1))), s)) :=
  (sm_go_x (cd := cd_X0_parameter) rfl h_X0_parameter 400 18 _ _ _).trans rfl
theorem h_X0_given : sm_chain 0 cd_X0_given = true := by decide +kernel
set_option maxRecDepth 20000 in
theorem q_X0_given_0 (X : Nat × (Nat → Int32)) (C : sm_C) (i0 : Nat) (x1 : Int32) (s : sm_S) : sm_go (sm_ZZ X) sm_PP true C 10 0 [vP (10, i0), vI x1] [] s =
  sm_bI (C 3 [vP (10, i0), vI x1] s) sm_tw fun y1 s2 =>
  if y1 = 0 then
   (some (some (some (vI 38)), s2))
  else
   (sm_ix x1 17 fun z3 =>
   some (some (some (vI (s2.1 38 i0 z3))), s2)) :=
  (sm_go_x (cd := cd_X0_given) rfl h_X0_given 400 0 _ _ _).trans rfl
theorem h_X0_start : sm_chain 0 cd_X0_start = true := by decide +kernel
set_option maxRecDepth 20000 in
theorem q_X0_start_0 (X : Nat × (Nat → Int32)) (C : sm_C) (i0 : Nat) (x1 : Int32) (s : sm_S) : sm_go (sm_ZZ X) sm_PP true C 11 0 [vP (10, i0), vI x1] [] s =
  sm_bI (C 3 [vP (10, i0), vI x1] s) sm_tw fun y1 s2 =>
  if y1 = 0 then
   (some (some (some (vI (s2.1 10 i0 11))), s2))
  else
   (sm_ix x1 17 fun z3 =>
   some (some (some (vI (s2.1 35 i0 z3))), s2)) :=
  (sm_go_x (cd := cd_X0_start) rfl h_X0_start 400 0 _ _ _).trans rfl
theorem h_X0_takesInts : sm_chain 0 cd_X0_takesInts = true := by decide +kernel
set_option maxRecDepth 20000 in
theorem q_X0_takesInts_0 (X : Nat × (Nat → Int32)) (C : sm_C) (i0 : Nat) (x1 : Int32) (s : sm_S) : sm_go (sm_ZZ X) sm_PP true C 12 0 [vP (10, i0), vI x1, vU, vU] [] s =
  sm_bI (C 8 [vP (10, i0), vI x1] s) sm_tw fun y1 s2 =>
  sm_go (sm_ZZ X) sm_PP true C 12 8 [vP (10, i0), vI x1, vI y1, vI 0] [] s2 :=
  (sm_go_x (cd := cd_X0_takesInts) rfl h_X0_takesInts 400 0 _ _ _).trans rfl
set_option maxRecDepth 20000 in
theorem q_X0_takesInts_8 (X : Nat × (Nat → Int32)) (C : sm_C) (i0 : Nat) (x1 : Int32) (x2 : Int32) (x3 : Int32) (s : sm_S) : sm_go (sm_ZZ X) sm_PP true C 12 8 [vP (10, i0), vI x1, vI x2, vI x3] [] s =
  if x3 < x2 then
   (sm_bI (C 9 [vP (10, i0), vI x1, vI x3] s) sm_tw fun y1 s2 =>
   if y1 = 36 then
    (sm_go (sm_ZZ X) sm_PP true C 12 8 [vP (10, i0), vI x1, vI x2, vI (x3 + 1)] [] s2)
   else
    (some (some (some (vI 0)), s2)))
  else
   (if 2 < x2 then
    (some (some (some (vI 0)), s))
   else
    (some (some (some (vI 1)), s))) :=
  (sm_go_x (cd := cd_X0_takesInts) rfl h_X0_takesInts 400 8 _ _ _).trans rfl
theorem h_X0_emit : sm_chain 0 cd_X0_emit = true := by decide +kernel
set_option maxRecDepth 20000 in
theorem q_X0_emit_0 (X : Nat × (Nat → Int32)) (C : sm_C) (i0 : Nat) (x1 : Int32) (x2 : Int32) (x3 : Int32) (s : sm_S) : sm_go (sm_ZZ X) sm_PP true C 13 0 [vP (10, i0), vI x1, vI x2, vI x3] [] s =
  if (s.1 10 i0 11) < 900 then
   (sm_ix (s.1 10 i0 11) 900 fun z1 =>
   sm_ix ((sI s 30 i0 z1 x1).1 10 i0 11) 900 fun z2 =>
   sm_ix ((sI (sI s 30 i0 z1 x1) 31 i0 z2 x2).1 10 i0 11) 900 fun z3 =>
   sm_ix ((sI (sI (sI s 30 i0 z1 x1) 31 i0 z2 x2) 32 i0 z3 x3).1 10 i0 11) 900 fun z4 =>
   some (some (some (vI (((sI (sI (sI (sI (sI s 30 i0 z1 x1) 31 i0 z2 x2) 32 i0 z3 x3) 33 i0 z4 ((sI (sI (sI s 30 i0 z1 x1) 31 i0 z2 x2) 32 i0 z3 x3).1 10 i0 12)) 10 i0 11 (((sI (sI (sI (sI s 30 i0 z1 x1) 31 i0 z2 x2) 32 i0 z3 x3) 33 i0 z4 ((sI (sI (sI s 30 i0 z1 x1) 31 i0 z2 x2) 32 i0 z3 x3).1 10 i0 12)).1 10 i0 11) + 1)).1 10 i0 11) - 1))), (sI (sI (sI (sI (sI s 30 i0 z1 x1) 31 i0 z2 x2) 32 i0 z3 x3) 33 i0 z4 ((sI (sI (sI s 30 i0 z1 x1) 31 i0 z2 x2) 32 i0 z3 x3).1 10 i0 12)) 10 i0 11 (((sI (sI (sI (sI s 30 i0 z1 x1) 31 i0 z2 x2) 32 i0 z3 x3) 33 i0 z4 ((sI (sI (sI s 30 i0 z1 x1) 31 i0 z2 x2) 32 i0 z3 x3).1 10 i0 12)).1 10 i0 11) + 1))))
  else
   (some (some (some (vI (s.1 10 i0 11))), s)) :=
  (sm_go_x (cd := cd_X0_emit) rfl h_X0_emit 400 0 _ _ _).trans rfl
theorem h_X0_takeBack : sm_chain 0 cd_X0_takeBack = true := by decide +kernel
set_option maxRecDepth 20000 in
theorem q_X0_takeBack_0 (X : Nat × (Nat → Int32)) (C : sm_C) (i0 : Nat) (s : sm_S) : sm_go (sm_ZZ X) sm_PP true C 14 0 [vP (10, i0)] [] s =
  if 0 < (s.1 10 i0 11) then
   (sm_ix ((sI s 10 i0 11 ((s.1 10 i0 11) - 1)).1 10 i0 11) 900 fun z1 =>
   some (some (some (vI ((sI s 10 i0 11 ((s.1 10 i0 11) - 1)).1 31 i0 z1))), (sI s 10 i0 11 ((s.1 10 i0 11) - 1))))
  else
   (some (some (some (vI 0)), s)) :=
  (sm_go_x (cd := cd_X0_takeBack) rfl h_X0_takeBack 400 0 _ _ _).trans rfl
theorem h_X0_aimHere : sm_chain 0 cd_X0_aimHere = true := by decide +kernel
set_option maxRecDepth 20000 in
theorem q_X0_aimHere_0 (X : Nat × (Nat → Int32)) (C : sm_C) (i0 : Nat) (x1 : Int32) (s : sm_S) : sm_go (sm_ZZ X) sm_PP true C 15 0 [vP (10, i0), vI x1] [] s =
  sm_bI (C 18 [vP (10, i0), vI x1] s) sm_tw fun y1 s2 =>
  if y1 = 0 then
   (some (some none, s2))
  else
   (sm_ix x1 900 fun z3 =>
   some (some none, (sI s2 31 i0 z3 (s2.1 10 i0 11)))) :=
  (sm_go_x (cd := cd_X0_aimHere) rfl h_X0_aimHere 400 0 _ _ _).trans rfl
theorem h_X0_addTry : sm_chain 0 cd_X0_addTry = true := by decide +kernel
set_option maxRecDepth 20000 in
theorem q_X0_addTry_0 (X : Nat × (Nat → Int32)) (C : sm_C) (i0 : Nat) (s : sm_S) : sm_go (sm_ZZ X) sm_PP true C 16 0 [vP (10, i0)] [] s =
  if (s.1 10 i0 10) < 100 then
   (sm_ix (s.1 10 i0 10) 100 fun z1 =>
   some (some (some (vI (((sI (sI s 34 i0 z1 (s.1 10 i0 11)) 10 i0 10 (((sI s 34 i0 z1 (s.1 10 i0 11)).1 10 i0 10) + 1)).1 10 i0 10) - 1))), (sI (sI s 34 i0 z1 (s.1 10 i0 11)) 10 i0 10 (((sI s 34 i0 z1 (s.1 10 i0 11)).1 10 i0 10) + 1))))
  else
   (some (some (some (vI (-1))), s)) :=
  (sm_go_x (cd := cd_X0_addTry) rfl h_X0_addTry 400 0 _ _ _).trans rfl
theorem h_X0_catchHere : sm_chain 0 cd_X0_catchHere = true := by decide +kernel
set_option maxRecDepth 20000 in
theorem q_X0_catchHere_0 (X : Nat × (Nat → Int32)) (C : sm_C) (i0 : Nat) (x1 : Int32) (s : sm_S) : sm_go (sm_ZZ X) sm_PP true C 17 0 [vP (10, i0), vI x1] [] s =
  if x1 < 0 then
   (some (some none, s))
  else
   (if x1 < (s.1 10 i0 10) then
    (sm_ix x1 100 fun z1 =>
    some (some none, (sI s 34 i0 z1 (s.1 10 i0 11))))
   else
    (some (some none, s))) :=
  (sm_go_x (cd := cd_X0_catchHere) rfl h_X0_catchHere 400 0 _ _ _).trans rfl
theorem h_X0_isInstruction : sm_chain 0 cd_X0_isInstruction = true := by decide +kernel
set_option maxRecDepth 20000 in
theorem q_X0_isInstruction_0 (X : Nat × (Nat → Int32)) (C : sm_C) (i0 : Nat) (x1 : Int32) (s : sm_S) : sm_go (sm_ZZ X) sm_PP true C 18 0 [vP (10, i0), vI x1] [] s =
  if x1 < 0 then
   (some (some (some (vI 0)), s))
  else
   (if x1 < (s.1 10 i0 11) then
    (some (some (some (vI 1)), s))
   else
    (some (some (some (vI 0)), s))) :=
  (sm_go_x (cd := cd_X0_isInstruction) rfl h_X0_isInstruction 400 0 _ _ _).trans rfl
theorem h_X0_op : sm_chain 0 cd_X0_op = true := by decide +kernel
set_option maxRecDepth 20000 in
theorem q_X0_op_0 (X : Nat × (Nat → Int32)) (C : sm_C) (i0 : Nat) (x1 : Int32) (s : sm_S) : sm_go (sm_ZZ X) sm_PP true C 19 0 [vP (10, i0), vI x1] [] s =
  sm_bI (C 18 [vP (10, i0), vI x1] s) sm_tw fun y1 s2 =>
  if y1 = 0 then
   (some (some (some (vI 3)), s2))
  else
   (sm_ix x1 900 fun z3 =>
   some (some (some (vI (s2.1 30 i0 z3))), s2)) :=
  (sm_go_x (cd := cd_X0_op) rfl h_X0_op 400 0 _ _ _).trans rfl
theorem h_X0_arg : sm_chain 0 cd_X0_arg = true := by decide +kernel
set_option maxRecDepth 20000 in
theorem q_X0_arg_0 (X : Nat × (Nat → Int32)) (C : sm_C) (i0 : Nat) (x1 : Int32) (s : sm_S) : sm_go (sm_ZZ X) sm_PP true C 20 0 [vP (10, i0), vI x1] [] s =
  sm_bI (C 18 [vP (10, i0), vI x1] s) sm_tw fun y1 s2 =>
  if y1 = 0 then
   (some (some (some (vI 0)), s2))
  else
   (sm_ix x1 900 fun z3 =>
   some (some (some (vI (s2.1 31 i0 z3))), s2)) :=
  (sm_go_x (cd := cd_X0_arg) rfl h_X0_arg 400 0 _ _ _).trans rfl
theorem h_X0_tokenPlace : sm_chain 0 cd_X0_tokenPlace = true := by decide +kernel
set_option maxRecDepth 20000 in
theorem q_X0_tokenPlace_0 (X : Nat × (Nat → Int32)) (C : sm_C) (i0 : Nat) (x1 : Int32) (s : sm_S) : sm_go (sm_ZZ X) sm_PP true C 21 0 [vP (10, i0), vI x1] [] s =
  sm_bI (C 18 [vP (10, i0), vI x1] s) sm_tw fun y1 s2 =>
  if y1 = 0 then
   (some (some (some (vI (-1))), s2))
  else
   (sm_ix x1 900 fun z3 =>
   some (some (some (vI (s2.1 32 i0 z3))), s2)) :=
  (sm_go_x (cd := cd_X0_tokenPlace) rfl h_X0_tokenPlace 400 0 _ _ _).trans rfl
theorem h_X0_catchOf : sm_chain 0 cd_X0_catchOf = true := by decide +kernel
set_option maxRecDepth 20000 in
theorem q_X0_catchOf_0 (X : Nat × (Nat → Int32)) (C : sm_C) (i0 : Nat) (x1 : Int32) (s : sm_S) : sm_go (sm_ZZ X) sm_PP true C 22 0 [vP (10, i0), vI x1, vU] [] s =
  sm_bI (C 18 [vP (10, i0), vI x1] s) sm_tw fun y1 s2 =>
  if y1 = 0 then
   (sm_go (sm_ZZ X) sm_PP true C 22 18 [vP (10, i0), vI x1, vU] [vI (-1)] s2)
  else
   (sm_ix x1 900 fun z3 =>
   sm_go (sm_ZZ X) sm_PP true C 22 18 [vP (10, i0), vI x1, vU] [vI (s2.1 33 i0 z3)] s2) :=
  (sm_go_x (cd := cd_X0_catchOf) rfl h_X0_catchOf 400 0 _ _ _).trans rfl
set_option maxRecDepth 20000 in
theorem q_X0_catchOf_18 (X : Nat × (Nat → Int32)) (C : sm_C) (i0 : Nat) (d1 : sm_V) (d2 : sm_V) (x100 : Int32) (s : sm_S) : sm_go (sm_ZZ X) sm_PP true C 22 18 [vP (10, i0), d1, d2] [vI x100] s =
  if x100 < 0 then
   (some (some (some (vI (-1))), s))
  else
   (if x100 < (s.1 10 i0 10) then
    (sm_ix x100 100 fun z1 =>
    some (some (some (vI (s.1 34 i0 z1))), s))
   else
    (some (some (some (vI (-1))), s))) :=
  (sm_go_x (cd := cd_X0_catchOf) rfl h_X0_catchOf 400 18 _ _ _).trans rfl
theorem h_X1_isKind : sm_chain 0 cd_X1_isKind = true := by decide +kernel
set_option maxRecDepth 20000 in
theorem q_X1_isKind_0 (X : Nat × (Nat → Int32)) (C : sm_C) (x0 : Int32) (s : sm_S) : sm_go (sm_ZZ X) sm_PP true C 23 0 [vI x0] [] s =
  if x0 < 0 then
   (some (some (some (vI 0)), s))
  else
   (if 12 < x0 then
    (some (some (some (vI 0)), s))
   else
    (some (some (some (vI 1)), s))) :=
  (sm_go_x (cd := cd_X1_isKind) rfl h_X1_isKind 400 0 _ _ _).trans rfl
theorem h_X1_isKindOrAbility : sm_chain 0 cd_X1_isKindOrAbility = true := by decide +kernel
set_option maxRecDepth 20000 in
theorem q_X1_isKindOrAbility_0 (X : Nat × (Nat → Int32)) (C : sm_C) (x0 : Int32) (s : sm_S) : sm_go (sm_ZZ X) sm_PP true C 24 0 [vI x0] [] s =
  if x0 < 0 then
   (some (some (some (vI 0)), s))
  else
   (if x0 < 18 then
    (some (some (some (vI 1)), s))
   else
    (some (some (some (vI 0)), s))) :=
  (sm_go_x (cd := cd_X1_isKindOrAbility) rfl h_X1_isKindOrAbility 400 0 _ _ _).trans rfl
theorem h_X1_isRow : sm_chain 0 cd_X1_isRow = true := by decide +kernel
set_option maxRecDepth 20000 in
theorem q_X1_isRow_0 (X : Nat × (Nat → Int32)) (C : sm_C) (x0 : Int32) (s : sm_S) : sm_go (sm_ZZ X) sm_PP true C 25 0 [vI x0] [] s =
  if x0 < 18 then
   (some (some (some (vI 0)), s))
  else
   (if x0 < 36 then
    (some (some (some (vI 1)), s))
   else
    (some (some (some (vI 0)), s))) :=
  (sm_go_x (cd := cd_X1_isRow) rfl h_X1_isRow 400 0 _ _ _).trans rfl
theorem h_X1_isReference : sm_chain 0 cd_X1_isReference = true := by decide +kernel
set_option maxRecDepth 20000 in
theorem q_X1_isReference_0 (X : Nat × (Nat → Int32)) (C : sm_C) (x0 : Int32) (s : sm_S) : sm_go (sm_ZZ X) sm_PP true C 26 0 [vI x0] [] s =
  if x0 < 0 then
   (if x0 = 37 then
    (some (some (some (vI 1)), s))
   else
    (some (some (some (vI 0)), s)))
  else
   (if x0 < 36 then
    (some (some (some (vI 1)), s))
   else
    (if x0 = 37 then
     (some (some (some (vI 1)), s))
    else
     (some (some (some (vI 0)), s)))) :=
  (sm_go_x (cd := cd_X1_isReference) rfl h_X1_isReference 400 0 _ _ _).trans rfl
theorem h_X1_isBelow : sm_chain 0 cd_X1_isBelow = true := by decide +kernel
set_option maxRecDepth 20000 in
theorem q_X1_isBelow_0 (X : Nat × (Nat → Int32)) (C : sm_C) (x0 : Int32) (x1 : Int32) (s : sm_S) : sm_go (sm_ZZ X) sm_PP true C 27 0 [vI x0, vI x1] [] s =
  if x0 < 0 then
   (some (some (some (vI 0)), s))
  else
   (if x0 < 36 then
    (if x1 < 0 then
     (some (some (some (vI 0)), s))
    else
     (if x1 < 36 then
      (if x0 < 18 then
       (if x1 < 18 then
        (sm_go (sm_ZZ X) sm_PP true C 27 44 [vI x0, vI x1] [vI 0, vI 0] s)
       else
        (sm_go (sm_ZZ X) sm_PP true C 27 44 [vI x0, vI x1] [vI 1, vI 0] s))
      else
       (if x1 < 18 then
        (sm_go (sm_ZZ X) sm_PP true C 27 44 [vI x0, vI x1] [vI 0, vI 1] s)
       else
        (sm_go (sm_ZZ X) sm_PP true C 27 44 [vI x0, vI x1] [vI 1, vI 1] s)))
     else
      (some (some (some (vI 0)), s))))
   else
    (some (some (some (vI 0)), s))) :=
  (sm_go_x (cd := cd_X1_isBelow) rfl h_X1_isBelow 400 0 _ _ _).trans rfl
set_option maxRecDepth 20000 in
theorem q_X1_isBelow_44 (X : Nat × (Nat → Int32)) (C : sm_C) (x0 : Int32) (x1 : Int32) (x100 : Int32) (x101 : Int32) (s : sm_S) : sm_go (sm_ZZ X) sm_PP true C 27 44 [vI x0, vI x1] [vI x101, vI x100] s =
  if x100 = x101 then
   (sm_ix (x0 - x0 / 18 * 18) (sm_tb 3).length fun z1 =>
   if ((((sm_tb 3).getD z1 0) >>> ((x1 - x1 / 18 * 18) &&& 31)) &&& 1) = 1 then
    (some (some (some (vI 1)), s))
   else
    (some (some (some (vI 0)), s)))
  else
   (some (some (some (vI 0)), s)) :=
  (sm_go_x (cd := cd_X1_isBelow) rfl h_X1_isBelow 400 44 _ _ _).trans rfl
theorem h_X1_fits : sm_chain 0 cd_X1_fits = true := by decide +kernel
set_option maxRecDepth 20000 in
theorem q_X1_fits_0 (X : Nat × (Nat → Int32)) (C : sm_C) (x0 : Int32) (x1 : Int32) (s : sm_S) : sm_go (sm_ZZ X) sm_PP true C 28 0 [vI x0, vI x1] [] s =
  if x0 = 37 then
   (sm_bI (C 26 [vI x1] s) sm_tw fun y1 s2 =>
   sm_rt 1 y1 s2)
  else
   (if x0 = 36 then
    (if x1 = 36 then
     (some (some (some (vI 1)), s))
    else
     (some (some (some (vI 0)), s)))
   else
    (sm_bI (C 27 [vI x0, vI x1] s) sm_tw fun y3 s4 =>
    sm_rt 1 y3 s4)) :=
  (sm_go_x (cd := cd_X1_fits) rfl h_X1_fits 400 0 _ _ _).trans rfl
theorem h_X1_mayBeAsked : sm_chain 0 cd_X1_mayBeAsked = true := by decide +kernel
set_option maxRecDepth 20000 in
theorem q_X1_mayBeAsked_0 (X : Nat × (Nat → Int32)) (C : sm_C) (x0 : Int32) (x1 : Int32) (s : sm_S) : sm_go (sm_ZZ X) sm_PP true C 29 0 [vI x0, vI x1, vU] [] s =
  sm_bI (C 26 [vI x0] s) sm_tw fun y1 s2 =>
  if y1 = 0 then
   (some (some (some (vI 0)), s2))
  else
   (sm_bI (C 26 [vI x1] s2) sm_tw fun y3 s4 =>
   if y3 = 0 then
    (some (some (some (vI 0)), s4))
   else
    (if x0 = 37 then
     (some (some (some (vI 1)), s4))
    else
     (sm_bI (C 25 [vI x0] s4) sm_tw fun y5 s6 =>
     sm_bI (C 25 [vI x1] s6) sm_tw fun y7 s8 =>
     if y5 = y7 then
      (sm_bI (C 23 [vI (x0 - x0 / 18 * 18)] s8) sm_tw fun y9 s10 =>
      if y9 = 0 then
       (sm_go (sm_ZZ X) sm_PP true C 29 62 [vI x0, vI x1, vU] [vI 0] s10)
      else
       (sm_bI (C 23 [vI (x1 - x1 / 18 * 18)] s10) sm_tw fun y11 s12 =>
       if y11 = 0 then
        (sm_go (sm_ZZ X) sm_PP true C 29 62 [vI x0, vI x1, vU] [vI 0] s12)
       else
        (sm_go (sm_ZZ X) sm_PP true C 29 62 [vI x0, vI x1, vU] [vI 1] s12)))
     else
      (some (some (some (vI 0)), s8))))) :=
  (sm_go_x (cd := cd_X1_mayBeAsked) rfl h_X1_mayBeAsked 400 0 _ _ _).trans rfl
set_option maxRecDepth 20000 in
theorem q_X1_mayBeAsked_62 (X : Nat × (Nat → Int32)) (C : sm_C) (x0 : Int32) (x1 : Int32) (d2 : sm_V) (x100 : Int32) (s : sm_S) : sm_go (sm_ZZ X) sm_PP true C 29 62 [vI x0, vI x1, d2] [vI x100] s =
  if x100 = 0 then
   (some (some (some (vI 1)), s))
  else
   (sm_bI (C 27 [vI x0, vI x1] s) sm_tw fun y1 s2 =>
   if y1 = 0 then
    (sm_bI (C 27 [vI x1, vI x0] s2) sm_tw fun y3 s4 =>
    if y3 = 0 then
     (some (some (some (vI 0)), s4))
    else
     (some (some (some (vI 1)), s4)))
   else
    (some (some (some (vI 1)), s2))) :=
  (sm_go_x (cd := cd_X1_mayBeAsked) rfl h_X1_mayBeAsked 400 62 _ _ _).trans rfl
theorem h_X2_isTrack : sm_chain 0 cd_X2_isTrack = true := by decide +kernel
set_option maxRecDepth 20000 in
theorem q_X2_isTrack_0 (X : Nat × (Nat → Int32)) (C : sm_C) (x0 : Int32) (s : sm_S) : sm_go (sm_ZZ X) sm_PP true C 31 0 [vI x0] [] s =
  if x0 < 0 then
   (some (some (some (vI 0)), s))
  else
   (if x0 < 8 then
    (some (some (some (vI 1)), s))
   else
    (some (some (some (vI 0)), s))) :=
  (sm_go_x (cd := cd_X2_isTrack) rfl h_X2_isTrack 400 0 _ _ _).trans rfl
theorem h_X2_setStated : sm_chain 0 cd_X2_setStated = true := by decide +kernel
set_option maxRecDepth 20000 in
theorem q_X2_setStated_0 (X : Nat × (Nat → Int32)) (C : sm_C) (i0 : Nat) (x1 : Int32) (x2 : Int32) (s : sm_S) : sm_go (sm_ZZ X) sm_PP true C 32 0 [vP (12, i0), vI x1, vI x2, vU] [] s =
  sm_bI (C 31 [vI x1] s) sm_tw fun y1 s2 =>
  if y1 = 0 then
   (some (some (some (vI 0)), s2))
  else
   (sm_bI (C 24 [vI x2] s2) sm_tw fun y3 s4 =>
   if y3 = 0 then
    (some (some (some (vI 0)), s4))
   else
    (sm_ix x1 8 fun z5 =>
    sm_ix x1 8 fun z6 =>
    if ((sI s4 39 i0 z5 x2).2.2.1 40 i0 z6).1 = 0 then
     (some (some (some (vI 1)), (sI s4 39 i0 z5 x2)))
    else
     (sm_rq ((sI s4 39 i0 z5 x2).2.2.1 40 i0 z6) 16 fun j7 =>
     sm_bI (C 27 [vI ((sI s4 39 i0 z5 x2).1 16 j7 0), vI x2] (sI s4 39 i0 z5 x2)) sm_tw fun y8 s9 =>
     if y8 = 0 then
      (sm_ix x1 8 fun z10 =>
      some (some (some (vI 1)), (sR s9 40 i0 z10 (0, 0))))
     else
      (some (some (some (vI 1)), s9))))) :=
  (sm_go_x (cd := cd_X2_setStated) rfl h_X2_setStated 400 0 _ _ _).trans rfl
theorem h_X2_rowOn : sm_chain 0 cd_X2_rowOn = true := by decide +kernel
set_option maxRecDepth 20000 in
theorem q_X2_rowOn_0 (X : Nat × (Nat → Int32)) (C : sm_C) (i0 : Nat) (x1 : Int32) (s : sm_S) : sm_go (sm_ZZ X) sm_PP true C 33 0 [vP (12, i0), vI x1] [] s =
  sm_bI (C 31 [vI x1] s) sm_tw fun y1 s2 =>
  if y1 = 0 then
   (some (some (some (vP (0, 0))), s2))
  else
   (sm_ix x1 8 fun z3 =>
   some (some (some (vP (s2.2.2.1 40 i0 z3))), s2)) :=
  (sm_go_x (cd := cd_X2_rowOn) rfl h_X2_rowOn 400 0 _ _ _).trans rfl
theorem h_X2_lay : sm_chain 0 cd_X2_lay = true := by decide +kernel
set_option maxRecDepth 20000 in
theorem q_X2_lay_0 (X : Nat × (Nat → Int32)) (C : sm_C) (i0 : Nat) (x1 : Int32) (q2 : Nat × Nat) (s : sm_S) : sm_go (sm_ZZ X) sm_PP true C 34 0 [vP (12, i0), vI x1, vP q2] [] s =
  sm_bI (C 31 [vI x1] s) sm_tw fun y1 s2 =>
  if y1 = 0 then
   (some (some (some (vI 0)), s2))
  else
   (if q2.1 = 0 then
    (sm_ix x1 8 fun z3 =>
    if q2.1 = 0 ∨ q2.1 = 16 then
     (some (some (some (vI 1)), (sR s2 40 i0 z3 q2)))
    else none)
   else
    (sm_rq q2 16 fun j4 =>
    sm_ix x1 8 fun z5 =>
    sm_bI (C 27 [vI (s2.1 16 j4 0), vI (s2.1 39 i0 z5)] s2) sm_tw fun y6 s7 =>
    if y6 = 0 then
     (some (some (some (vI 0)), s7))
    else
     (sm_ix x1 8 fun z8 =>
     if q2.1 = 0 ∨ q2.1 = 16 then
      (some (some (some (vI 1)), (sR s7 40 i0 z8 q2)))
     else none))) :=
  (sm_go_x (cd := cd_X2_lay) rfl h_X2_lay 400 0 _ _ _).trans rfl
theorem h_X2_send : sm_chain 0 cd_X2_send = true := by decide +kernel
set_option maxRecDepth 20000 in
theorem q_X2_send_0 (X : Nat × (Nat → Int32)) (C : sm_C) (i0 : Nat) (q1 : Nat × Nat) (x2 : Int32) (x3 : Int32) (s : sm_S) : sm_go (sm_ZZ X) sm_PP true C 35 0 [vP (12, i0), vP q1, vI x2, vI x3, vU] [] s =
  sm_bI (C 31 [vI x2] s) sm_tw fun y1 s2 =>
  if y1 = 0 then
   (sm_go (sm_ZZ X) sm_PP true C 35 24 [vP (12, i0), vP q1, vI x2, vI x3, vU] [vI 0] s2)
  else
   (if x3 < 1 then
    (sm_go (sm_ZZ X) sm_PP true C 35 24 [vP (12, i0), vP q1, vI x2, vI x3, vU] [vI 0] s2)
   else
    (if 1000 < x3 then
     (sm_go (sm_ZZ X) sm_PP true C 35 24 [vP (12, i0), vP q1, vI x2, vI x3, vU] [vI 0] s2)
    else
     (sm_go (sm_ZZ X) sm_PP true C 35 24 [vP (12, i0), vP q1, vI x2, vI x3, vU] [vI 1] s2))) :=
  (sm_go_x (cd := cd_X2_send) rfl h_X2_send 400 0 _ _ _).trans rfl
set_option maxRecDepth 20000 in
theorem q_X2_send_24 (X : Nat × (Nat → Int32)) (C : sm_C) (i0 : Nat) (q1 : Nat × Nat) (x2 : Int32) (x3 : Int32) (d4 : sm_V) (x100 : Int32) (s : sm_S) : sm_go (sm_ZZ X) sm_PP true C 35 24 [vP (12, i0), vP q1, vI x2, vI x3, d4] [vI x100] s =
  if x100 = 0 then
   (some (some (some (vI (-1))), s))
  else
   (if (s.1 12 i0 3) < 10 then
    (sm_bV (C 144 [vP (18, (s.2.2.2.2.1 18)), vP q1, vI x2, vI x3] (sN s 18 5 0)) sm_tw fun s2 =>
    sm_ix (s.1 12 i0 3) 10 fun z3 =>
    some (some (some (vI (((sI (sR s2 41 i0 z3 (18, (s.2.2.2.2.1 18))) 12 i0 3 (((sR s2 41 i0 z3 (18, (s.2.2.2.2.1 18))).1 12 i0 3) + 1)).1 12 i0 3) - 1))), (sI (sR s2 41 i0 z3 (18, (s.2.2.2.2.1 18))) 12 i0 3 (((sR s2 41 i0 z3 (18, (s.2.2.2.2.1 18))).1 12 i0 3) + 1))))
   else
    (some (some (some (vI (-1))), s))) :=
  (sm_go_x (cd := cd_X2_send) rfl h_X2_send 400 24 _ _ _).trans rfl
theorem h_X2_passTime : sm_chain 0 cd_X2_passTime = true := by decide +kernel
set_option maxRecDepth 20000 in
theorem q_X2_passTime_0 (X : Nat × (Nat → Int32)) (C : sm_C) (i0 : Nat) (x1 : Int32) (s : sm_S) : sm_go (sm_ZZ X) sm_PP true C 36 0 [vP (12, i0), vI x1, vU, vU, vU, vU] [] s =
  sm_go (sm_ZZ X) sm_PP true C 36 4 [vP (12, i0), vI x1, vI 0, vI 0, vU, vU] [] s :=
  (sm_go_x (cd := cd_X2_passTime) rfl h_X2_passTime 400 0 _ _ _).trans rfl
set_option maxRecDepth 20000 in
theorem q_X2_passTime_4 (X : Nat × (Nat → Int32)) (C : sm_C) (i0 : Nat) (x1 : Int32) (x2 : Int32) (x3 : Int32) (d4 : sm_V) (d5 : sm_V) (s : sm_S) : sm_go (sm_ZZ X) sm_PP true C 36 4 [vP (12, i0), vI x1, vI x2, vI x3, d4, d5] [] s =
  if x3 < x1 then
   (sm_go (sm_ZZ X) sm_PP true C 36 22 [vP (12, i0), vI x1, vI x2, vI x3, vI 0, vU] [] (sI s 12 i0 4 ((s.1 12 i0 4) + 1)))
  else
   (some (some (some (vI x2)), s)) :=
  (sm_go_x (cd := cd_X2_passTime) rfl h_X2_passTime 400 4 _ _ _).trans rfl
set_option maxRecDepth 20000 in
theorem q_X2_passTime_22 (X : Nat × (Nat → Int32)) (C : sm_C) (i0 : Nat) (x1 : Int32) (x2 : Int32) (x3 : Int32) (x4 : Int32) (d5 : sm_V) (s : sm_S) : sm_go (sm_ZZ X) sm_PP true C 36 22 [vP (12, i0), vI x1, vI x2, vI x3, vI x4, d5] [] s =
  if x4 < (s.1 12 i0 3) then
   (sm_ix x4 10 fun z1 =>
   if (s.2.2.1 41 i0 z1).1 = 0 then
    (sm_go (sm_ZZ X) sm_PP true C 36 22 [vP (12, i0), vI x1, vI x2, vI x3, vI (x4 + 1), vP (s.2.2.1 41 i0 z1)] [] s)
   else
    (sm_rq (s.2.2.1 41 i0 z1) 18 fun j2 =>
    if (s.1 18 j2 4) = 0 then
     (sm_bI (C 37 [vP (12, i0), vP (s.2.2.1 41 i0 z1)] s) sm_tw fun y3 s4 =>
     if y3 = 0 then
      (sm_go (sm_ZZ X) sm_PP true C 36 22 [vP (12, i0), vI x1, vI (x2 + 0), vI x3, vI (x4 + 1), vP (s.2.2.1 41 i0 z1)] [] s4)
     else
      (sm_go (sm_ZZ X) sm_PP true C 36 22 [vP (12, i0), vI x1, vI (x2 + 1), vI x3, vI (x4 + 1), vP (s.2.2.1 41 i0 z1)] [] s4))
    else
     (sm_go (sm_ZZ X) sm_PP true C 36 22 [vP (12, i0), vI x1, vI x2, vI x3, vI (x4 + 1), vP (s.2.2.1 41 i0 z1)] [] s)))
  else
   (sm_go (sm_ZZ X) sm_PP true C 36 4 [vP (12, i0), vI x1, vI x2, vI (x3 + 1), vI x4, vU] [] s) :=
  (sm_go_x (cd := cd_X2_passTime) rfl h_X2_passTime 400 22 _ _ _).trans rfl
theorem h_X2_move : sm_chain 0 cd_X2_move = true := by decide +kernel
set_option maxRecDepth 20000 in
theorem q_X2_move_0 (X : Nat × (Nat → Int32)) (C : sm_C) (i0 : Nat) (q1 : Nat × Nat) (s : sm_S) : sm_go (sm_ZZ X) sm_PP true C 37 0 [vP (12, i0), vP q1] [] s =
  if q1.1 = 18 then
   (sm_bV (C 145 [vP q1] s) sm_tw fun s2 =>
  sm_rq q1 18 fun j3 =>
  if 0 < (s2.1 18 j3 2) then
   (some (some (some (vI 0)), s2))
  else
   (sm_rq q1 18 fun j4 =>
   sm_rq q1 18 fun j5 =>
   sm_bI (C 34 [vP (12, i0), vI (s2.1 18 j4 1), vP (s2.2.2.1 18 j5 0)] s2) sm_tw fun y6 s7 =>
   if y6 = 0 then
    (sm_rq q1 18 fun j8 =>
    some (some (some (vI 1)), (sI s7 18 j8 4 2)))
   else
    (sm_rq q1 18 fun j9 =>
    some (some (some (vI 1)), (sI s7 18 j9 4 1)))))
  else none :=
  (sm_go_x (cd := cd_X2_move) rfl h_X2_move 400 0 _ _ _).trans rfl
theorem h_X2_tellTrack : sm_chain 0 cd_X2_tellTrack = true := by decide +kernel
set_option maxRecDepth 20000 in
theorem q_X2_tellTrack_0 (X : Nat × (Nat → Int32)) (C : sm_C) (i0 : Nat) (x1 : Int32) (x2 : Int32) (s : sm_S) : sm_go (sm_ZZ X) sm_PP true C 38 0 [vP (12, i0), vI x1, vI x2, vU] [] s =
  sm_bI (C 31 [vI x1] s) sm_tw fun y1 s2 =>
  if y1 = 0 then
   (some (some (some (vI (-1))), s2))
  else
   (sm_ix x1 8 fun z3 =>
   if x2 = 0 then
    (sm_ix x1 8 fun z4 =>
    some (some (some (vI (s2.1 39 i0 z4))), s2))
   else if x2 = 1 then
    (if (s2.2.2.1 40 i0 z3).1 = 0 then
     (some (some (some (vI (-1))), s2))
    else
     (sm_rq (s2.2.2.1 40 i0 z3) 16 fun j5 =>
     some (some (some (vI (s2.1 16 j5 0))), s2)))
   else if x2 = 2 then
    (if (s2.2.2.1 40 i0 z3).1 = 0 then
     (some (some (some (vI 0)), s2))
    else
     (sm_rq (s2.2.2.1 40 i0 z3) 16 fun j6 =>
     some (some (some (vI (s2.1 16 j6 2))), s2)))
   else if x2 = 3 then
    (if (s2.2.2.1 40 i0 z3).1 = 0 then
     (some (some (some (vI (-1))), s2))
    else
     (sm_bI (C 39 [vP (12, i0), vP (s2.2.2.1 40 i0 z3)] s2) sm_tw fun y7 s8 =>
     some (some (some (vI y7)), s8)))
   else (some (some (some (vI (-1))), s2))) :=
  (sm_go_x (cd := cd_X2_tellTrack) rfl h_X2_tellTrack 400 0 _ _ _).trans rfl
theorem h_X2_leastTrackWith : sm_chain 0 cd_X2_leastTrackWith = true := by decide +kernel
set_option maxRecDepth 20000 in
theorem q_X2_leastTrackWith_0 (X : Nat × (Nat → Int32)) (C : sm_C) (i0 : Nat) (q1 : Nat × Nat) (s : sm_S) : sm_go (sm_ZZ X) sm_PP true C 39 0 [vP (12, i0), vP q1, vU] [] s =
  sm_go (sm_ZZ X) sm_PP true C 39 2 [vP (12, i0), vP q1, vI 0] [] s :=
  (sm_go_x (cd := cd_X2_leastTrackWith) rfl h_X2_leastTrackWith 400 0 _ _ _).trans rfl
set_option maxRecDepth 20000 in
theorem q_X2_leastTrackWith_2 (X : Nat × (Nat → Int32)) (C : sm_C) (i0 : Nat) (q1 : Nat × Nat) (x2 : Int32) (s : sm_S) : sm_go (sm_ZZ X) sm_PP true C 39 2 [vP (12, i0), vP q1, vI x2] [] s =
  if x2 < 8 then
   (sm_ix x2 8 fun z1 =>
   if (s.2.2.1 40 i0 z1) = q1 then
    (some (some (some (vI x2)), s))
   else if ((s.2.2.1 40 i0 z1).1 = 0 ∨ 10 ≤ (s.2.2.1 40 i0 z1).1) ∧ (q1.1 = 0 ∨ 10 ≤ q1.1) then
    (sm_go (sm_ZZ X) sm_PP true C 39 2 [vP (12, i0), vP q1, vI (x2 + 1)] [] s)
   else none)
  else
   (some (some (some (vI (-1))), s)) :=
  (sm_go_x (cd := cd_X2_leastTrackWith) rfl h_X2_leastTrackWith 400 2 _ _ _).trans rfl
theorem h_X2_tellTrain : sm_chain 0 cd_X2_tellTrain = true := by decide +kernel
set_option maxRecDepth 20000 in
theorem q_X2_tellTrain_0 (X : Nat × (Nat → Int32)) (C : sm_C) (i0 : Nat) (x1 : Int32) (x2 : Int32) (s : sm_S) : sm_go (sm_ZZ X) sm_PP true C 40 0 [vP (12, i0), vI x1, vI x2, vU] [] s =
  if x1 < 0 then
   (sm_go (sm_ZZ X) sm_PP true C 40 22 [vP (12, i0), vI x1, vI x2, vU] [vP (0, 0)] s)
  else
   (if x1 < (s.1 12 i0 3) then
    (sm_ix x1 10 fun z1 =>
    sm_go (sm_ZZ X) sm_PP true C 40 22 [vP (12, i0), vI x1, vI x2, vU] [vP (s.2.2.1 41 i0 z1)] s)
   else
    (sm_go (sm_ZZ X) sm_PP true C 40 22 [vP (12, i0), vI x1, vI x2, vU] [vP (0, 0)] s)) :=
  (sm_go_x (cd := cd_X2_tellTrain) rfl h_X2_tellTrain 400 0 _ _ _).trans rfl
set_option maxRecDepth 20000 in
theorem q_X2_tellTrain_22 (X : Nat × (Nat → Int32)) (C : sm_C) (d0 : sm_V) (d1 : sm_V) (x2 : Int32) (d3 : sm_V) (q100 : Nat × Nat) (s : sm_S) : sm_go (sm_ZZ X) sm_PP true C 40 22 [d0, d1, vI x2, d3] [vP q100] s =
  if q100.1 = 0 then
   (some (some (some (vI (-1))), s))
  else
   (if x2 = 0 then
    (sm_rq q100 18 fun j1 =>
    some (some (some (vI (s.1 18 j1 4))), s))
   else if x2 = 1 then
    (sm_rq q100 18 fun j2 =>
    some (some (some (vI (s.1 18 j2 1))), s))
   else if x2 = 2 then
    (sm_rq q100 18 fun j3 =>
    some (some (some (vI (s.1 18 j3 2))), s))
   else if x2 = 3 then
    (sm_rq q100 18 fun j4 =>
    some (some (some (vI (s.1 18 j4 3))), s))
   else if x2 = 4 then
    (sm_rq q100 18 fun j5 =>
    if (s.2.2.1 18 j5 0).1 = 16 then
     (sm_bI (C 127 [vP (s.2.2.1 18 j5 0), vI 2] s) sm_tw fun y6 s7 =>
    some (some (some (vI y6)), s7))
    else none)
   else (some (some (some (vI (-1))), s))) :=
  (sm_go_x (cd := cd_X2_tellTrain) rfl h_X2_tellTrain 400 22 _ _ _).trans rfl
theorem h_X3_start : sm_chain 0 cd_X3_start = true := by decide +kernel
set_option maxRecDepth 20000 in
theorem q_X3_start_0 (X : Nat × (Nat → Int32)) (C : sm_C) (i0 : Nat) (q1 : Nat × Nat) (x2 : Int32) (x3 : Int32) (x4 : Int32) (x5 : Int32) (s : sm_S) : sm_go (sm_ZZ X) sm_PP true C 42 0 [vP (13, i0), vP q1, vI x2, vI x3, vI x4, vI x5, vU, vU, vU] [] s =
  if ((sI (sI (sI (sI (sI (sI (sR s 13 i0 7 q1) 13 i0 8 0) 13 i0 9 0) 13 i0 11 x5) 13 i0 12 10) 13 i0 13 (-1)) 13 i0 14 0).2.2.1 13 i0 7).1 = 10 then
   (sm_bI (C 8 [vP ((sI (sI (sI (sI (sI (sI (sR s 13 i0 7 q1) 13 i0 8 0) 13 i0 9 0) 13 i0 11 x5) 13 i0 12 10) 13 i0 13 (-1)) 13 i0 14 0).2.2.1 13 i0 7), vI x2] (sI (sI (sI (sI (sI (sI (sR s 13 i0 7 q1) 13 i0 8 0) 13 i0 9 0) 13 i0 11 x5) 13 i0 12 10) 13 i0 13 (-1)) 13 i0 14 0)) sm_tw fun y1 s2 =>
  if 0 < y1 then
   (sm_bV (C 45 [vP (13, i0), vI x3] s2) sm_tw fun s4 =>
   sm_go (sm_ZZ X) sm_PP true C 42 53 [vP (13, i0), vP q1, vI x2, vI x3, vI x4, vI x5, vU, vU, vU] [] s4)
  else
   (sm_go (sm_ZZ X) sm_PP true C 42 53 [vP (13, i0), vP q1, vI x2, vI x3, vI x4, vI x5, vU, vU, vU] [] s2))
  else none :=
  (sm_go_x (cd := cd_X3_start) rfl h_X3_start 400 0 _ _ _).trans rfl
set_option maxRecDepth 20000 in
theorem q_X3_start_53 (X : Nat × (Nat → Int32)) (C : sm_C) (i0 : Nat) (d1 : sm_V) (x2 : Int32) (d3 : sm_V) (x4 : Int32) (d5 : sm_V) (d6 : sm_V) (d7 : sm_V) (d8 : sm_V) (s : sm_S) : sm_go (sm_ZZ X) sm_PP true C 42 53 [vP (13, i0), d1, vI x2, d3, vI x4, d5, d6, d7, d8] [] s =
  if (s.2.2.1 13 i0 7).1 = 10 then
   (sm_bI (C 8 [vP (s.2.2.1 13 i0 7), vI x2] s) sm_tw fun y1 s2 =>
  if 1 < y1 then
   (sm_bV (C 45 [vP (13, i0), vI x4] s2) sm_tw fun s4 =>
   sm_bV (C 50 [vP (13, i0), vI x2] s4) sm_tw fun s6 =>
   sm_go (sm_ZZ X) sm_PP true C 42 79 [vP (13, i0), vU, vI x2, vU, vI x4, vU, vI 0, vU, vU] [] s6)
  else
   (sm_bV (C 50 [vP (13, i0), vI x2] s2) sm_tw fun s8 =>
   sm_go (sm_ZZ X) sm_PP true C 42 79 [vP (13, i0), vU, vI x2, vU, vI x4, vU, vI 0, vU, vU] [] s8))
  else none :=
  (sm_go_x (cd := cd_X3_start) rfl h_X3_start 400 53 _ _ _).trans rfl
set_option maxRecDepth 20000 in
theorem q_X3_start_79 (X : Nat × (Nat → Int32)) (C : sm_C) (i0 : Nat) (d1 : sm_V) (x2 : Int32) (d3 : sm_V) (d4 : sm_V) (d5 : sm_V) (x6 : Int32) (d7 : sm_V) (d8 : sm_V) (s : sm_S) : sm_go (sm_ZZ X) sm_PP true C 42 79 [vP (13, i0), d1, vI x2, d3, d4, d5, vI x6, d7, d8] [] s =
  if x6 < 10000000 then
   (if (s.1 13 i0 12) = 10 then
    (if (s.2.2.1 13 i0 7).1 = 10 then
     (sm_bI (C 19 [vP (s.2.2.1 13 i0 7), vI (s.1 13 i0 10)] s) sm_tw fun y1 s2 =>
    if (s2.2.2.1 13 i0 7).1 = 10 then
     (sm_bI (C 20 [vP (s2.2.2.1 13 i0 7), vI (s2.1 13 i0 10)] s2) sm_tw fun y3 s4 =>
    if y1 < 4 then
     (sm_bV (C 55 [vP (13, i0), vI y1, vI y3] (sI s4 13 i0 10 ((s4.1 13 i0 10) + 1))) sm_tw fun s6 =>
     sm_go (sm_ZZ X) sm_PP true C 42 79 [vP (13, i0), vU, vI x2, vU, vU, vU, vI (x6 + 1), vI y1, vI y3] [] s6)
    else
     (if 0 < ((sI s4 13 i0 10 ((s4.1 13 i0 10) + 1)).1 13 i0 11) then
      (sm_bV (C 56 [vP (13, i0), vI y1, vI y3] (sI (sI s4 13 i0 10 ((s4.1 13 i0 10) + 1)) 13 i0 11 (((sI s4 13 i0 10 ((s4.1 13 i0 10) + 1)).1 13 i0 11) - 1))) sm_tw fun s8 =>
      sm_go (sm_ZZ X) sm_PP true C 42 79 [vP (13, i0), vU, vI x2, vU, vU, vU, vI (x6 + 1), vI y1, vI y3] [] s8)
     else
      (sm_bV (C 52 [vP (13, i0), vI 7] (sI s4 13 i0 10 ((s4.1 13 i0 10) + 1))) sm_tw fun s10 =>
      sm_go (sm_ZZ X) sm_PP true C 42 79 [vP (13, i0), vU, vI x2, vU, vU, vU, vI (x6 + 1), vI y1, vI y3] [] s10)))
    else none)
    else none)
   else
    (if (s.2.2.1 13 i0 7).1 = 10 then
     (sm_bI (C 10 [vP (s.2.2.1 13 i0 7), vI x2] s) sm_tw fun y11 s12 =>
    sm_bV (C 43 [vP (13, i0), vI y11] s12) sm_tw fun s14 =>
    some (some (some (vI (s14.1 13 i0 12))), s14))
    else none))
  else
   (if (s.2.2.1 13 i0 7).1 = 10 then
    (sm_bI (C 10 [vP (s.2.2.1 13 i0 7), vI x2] s) sm_tw fun y15 s16 =>
   sm_bV (C 43 [vP (13, i0), vI y15] s16) sm_tw fun s18 =>
   some (some (some (vI (s18.1 13 i0 12))), s18))
   else none) :=
  (sm_go_x (cd := cd_X3_start) rfl h_X3_start 400 79 _ _ _).trans rfl
theorem h_X3_keepRun : sm_chain 0 cd_X3_keepRun = true := by decide +kernel
set_option maxRecDepth 20000 in
theorem q_X3_keepRun_0 (X : Nat × (Nat → Int32)) (C : sm_C) (i0 : Nat) (x1 : Int32) (s : sm_S) : sm_go (sm_ZZ X) sm_PP true C 43 0 [vP (13, i0), vI x1, vU, vU, vU] [] s =
  if (s.1 13 i0 12) = 0 then
   (sm_go (sm_ZZ X) sm_PP true C 43 12 [vP (13, i0), vI x1, vU, vU, vU] [vI 1] s)
  else
   (sm_go (sm_ZZ X) sm_PP true C 43 12 [vP (13, i0), vI x1, vU, vU, vU] [vI 0] s) :=
  (sm_go_x (cd := cd_X3_keepRun) rfl h_X3_keepRun 400 0 _ _ _).trans rfl
set_option maxRecDepth 20000 in
theorem q_X3_keepRun_12 (X : Nat × (Nat → Int32)) (C : sm_C) (i0 : Nat) (x1 : Int32) (d2 : sm_V) (d3 : sm_V) (d4 : sm_V) (x100 : Int32) (s : sm_S) : sm_go (sm_ZZ X) sm_PP true C 43 12 [vP (13, i0), vI x1, d2, d3, d4] [vI x100] s =
  if x100 = 0 then
   (sm_go (sm_ZZ X) sm_PP true C 43 29 [vP (13, i0), vI x1, vI x100, vU, vU] [vI 0] s)
  else
   (sm_bI (C 26 [vI x1] s) sm_tw fun y1 s2 =>
   if y1 = 0 then
    (sm_go (sm_ZZ X) sm_PP true C 43 29 [vP (13, i0), vI x1, vI x100, vU, vU] [vI 0] s2)
   else
    (sm_go (sm_ZZ X) sm_PP true C 43 29 [vP (13, i0), vI x1, vI x100, vU, vU] [vI 1] s2)) :=
  (sm_go_x (cd := cd_X3_keepRun) rfl h_X3_keepRun 400 12 _ _ _).trans rfl
set_option maxRecDepth 20000 in
theorem q_X3_keepRun_29 (X : Nat × (Nat → Int32)) (C : sm_C) (i0 : Nat) (x1 : Int32) (x2 : Int32) (d3 : sm_V) (d4 : sm_V) (x100 : Int32) (s : sm_S) : sm_go (sm_ZZ X) sm_PP true C 43 29 [vP (13, i0), vI x1, vI x2, d3, d4] [vI x100] s =
  if x100 = 0 then
   (sm_go (sm_ZZ X) sm_PP true C 43 49 [vP (13, i0), vI x1, vI x2, vI x100, vU] [vP (0, 0)] s)
  else
   (sm_bP (C 162 [vP (20, i0), vI (s.1 13 i0 14)] s) sm_tw fun y1 s2 =>
   sm_go (sm_ZZ X) sm_PP true C 43 49 [vP (13, i0), vI x1, vI x2, vI x100, vU] [vP y1] s2) :=
  (sm_go_x (cd := cd_X3_keepRun) rfl h_X3_keepRun 400 29 _ _ _).trans rfl
set_option maxRecDepth 20000 in
theorem q_X3_keepRun_49 (X : Nat × (Nat → Int32)) (C : sm_C) (i0 : Nat) (x1 : Int32) (x2 : Int32) (x3 : Int32) (d4 : sm_V) (q100 : Nat × Nat) (s : sm_S) : sm_go (sm_ZZ X) sm_PP true C 43 49 [vP (13, i0), vI x1, vI x2, vI x3, d4] [vP q100] s =
  sm_ix 0 7 fun z1 =>
  if x2 = 0 then
   (sm_go (sm_ZZ X) sm_PP true C 43 89 [vP (13, i0), vI x1, vI x2, vI x3, vP q100] [vI 0, vI 1, vP (45, i0)] (sI (sI s 13 i0 6 1) 45 i0 z1 ((sI s 13 i0 6 1).1 13 i0 12)))
  else
   (if x1 = 36 then
    (sm_go (sm_ZZ X) sm_PP true C 43 89 [vP (13, i0), vI x1, vI x2, vI x3, vP q100] [vI ((sI (sI s 13 i0 6 1) 45 i0 z1 ((sI s 13 i0 6 1).1 13 i0 12)).1 13 i0 14), vI 1, vP (45, i0)] (sI (sI s 13 i0 6 1) 45 i0 z1 ((sI s 13 i0 6 1).1 13 i0 12)))
   else
    (sm_go (sm_ZZ X) sm_PP true C 43 89 [vP (13, i0), vI x1, vI x2, vI x3, vP q100] [vI 0, vI 1, vP (45, i0)] (sI (sI s 13 i0 6 1) 45 i0 z1 ((sI s 13 i0 6 1).1 13 i0 12)))) :=
  (sm_go_x (cd := cd_X3_keepRun) rfl h_X3_keepRun 400 49 _ _ _).trans rfl
set_option maxRecDepth 20000 in
theorem q_X3_keepRun_89 (X : Nat × (Nat → Int32)) (C : sm_C) (i0 : Nat) (d1 : sm_V) (x2 : Int32) (x3 : Int32) (q4 : Nat × Nat) (q100 : Nat × Nat) (x101 : Int32) (x102 : Int32) (s : sm_S) : sm_go (sm_ZZ X) sm_PP true C 43 89 [vP (13, i0), d1, vI x2, vI x3, vP q4] [vI x102, vI x101, vP q100] s =
  sm_rq q100 45 fun j1 =>
  sm_ix x101 7 fun z2 =>
  if x3 = 0 then
   (sm_go (sm_ZZ X) sm_PP true C 43 114 [vP (13, i0), vU, vI x2, vI x3, vP q4] [vI (-1), vI 2, vP (45, i0)] (sI s 45 j1 z2 x102))
  else
   (sm_bI (C 165 [vP (20, i0), vI ((sI s 45 j1 z2 x102).1 13 i0 14)] (sI s 45 j1 z2 x102)) sm_tw fun y3 s4 =>
   sm_go (sm_ZZ X) sm_PP true C 43 114 [vP (13, i0), vU, vI x2, vI x3, vP q4] [vI y3, vI 2, vP (45, i0)] s4) :=
  (sm_go_x (cd := cd_X3_keepRun) rfl h_X3_keepRun 400 89 _ _ _).trans rfl
set_option maxRecDepth 20000 in
theorem q_X3_keepRun_114 (X : Nat × (Nat → Int32)) (C : sm_C) (i0 : Nat) (d1 : sm_V) (x2 : Int32) (x3 : Int32) (q4 : Nat × Nat) (q100 : Nat × Nat) (x101 : Int32) (x102 : Int32) (s : sm_S) : sm_go (sm_ZZ X) sm_PP true C 43 114 [vP (13, i0), d1, vI x2, vI x3, vP q4] [vI x102, vI x101, vP q100] s =
  sm_rq q100 45 fun j1 =>
  sm_ix x101 7 fun z2 =>
  if x3 = 0 then
   (sm_go (sm_ZZ X) sm_PP true C 43 134 [vP (13, i0), vU, vI x2, vI x3, vP q4] [vI (-1), vI 3, vP (45, i0)] (sI s 45 j1 z2 x102))
  else
   (sm_go (sm_ZZ X) sm_PP true C 43 134 [vP (13, i0), vU, vI x2, vI x3, vP q4] [vI (((sI s 45 j1 z2 x102).1 13 i0 14) - 1), vI 3, vP (45, i0)] (sI s 45 j1 z2 x102)) :=
  (sm_go_x (cd := cd_X3_keepRun) rfl h_X3_keepRun 400 114 _ _ _).trans rfl
set_option maxRecDepth 20000 in
theorem q_X3_keepRun_134 (X : Nat × (Nat → Int32)) (C : sm_C) (i0 : Nat) (d1 : sm_V) (x2 : Int32) (d3 : sm_V) (q4 : Nat × Nat) (q100 : Nat × Nat) (x101 : Int32) (x102 : Int32) (s : sm_S) : sm_go (sm_ZZ X) sm_PP true C 43 134 [vP (13, i0), d1, vI x2, d3, vP q4] [vI x102, vI x101, vP q100] s =
  sm_rq q100 45 fun j1 =>
  sm_ix x101 7 fun z2 =>
  if q4.1 = 0 then
   (sm_go (sm_ZZ X) sm_PP true C 43 151 [vP (13, i0), vU, vI x2, vU, vP q4] [] (sI s 45 j1 z2 x102))
  else
   (sm_rq q4 16 fun j3 =>
   sm_ix 3 7 fun z4 =>
   sm_go (sm_ZZ X) sm_PP true C 43 151 [vP (13, i0), vU, vI x2, vU, vP q4] [] (sI (sI s 45 j1 z2 x102) 45 i0 z4 ((sI s 45 j1 z2 x102).1 16 j3 2))) :=
  (sm_go_x (cd := cd_X3_keepRun) rfl h_X3_keepRun 400 134 _ _ _).trans rfl
set_option maxRecDepth 20000 in
theorem q_X3_keepRun_151 (X : Nat × (Nat → Int32)) (C : sm_C) (i0 : Nat) (d1 : sm_V) (x2 : Int32) (d3 : sm_V) (d4 : sm_V) (s : sm_S) : sm_go (sm_ZZ X) sm_PP true C 43 151 [vP (13, i0), d1, vI x2, d3, d4] [] s =
  sm_ix 4 7 fun z1 =>
  if ((sI s 45 i0 z1 (s.1 13 i0 11)).1 13 i0 12) = 6 then
   (sm_go (sm_ZZ X) sm_PP true C 43 183 [vP (13, i0), vU, vI x2, vU, vU] [vI ((sI s 45 i0 z1 (s.1 13 i0 11)).1 13 i0 14), vI 5, vP (45, i0)] (sI s 45 i0 z1 (s.1 13 i0 11)))
  else
   (sm_go (sm_ZZ X) sm_PP true C 43 183 [vP (13, i0), vU, vI x2, vU, vU] [vI 0, vI 5, vP (45, i0)] (sI s 45 i0 z1 (s.1 13 i0 11))) :=
  (sm_go_x (cd := cd_X3_keepRun) rfl h_X3_keepRun 400 151 _ _ _).trans rfl
set_option maxRecDepth 20000 in
theorem q_X3_keepRun_183 (X : Nat × (Nat → Int32)) (C : sm_C) (i0 : Nat) (d1 : sm_V) (x2 : Int32) (d3 : sm_V) (d4 : sm_V) (q100 : Nat × Nat) (x101 : Int32) (x102 : Int32) (s : sm_S) : sm_go (sm_ZZ X) sm_PP true C 43 183 [vP (13, i0), d1, vI x2, d3, d4] [vI x102, vI x101, vP q100] s =
  sm_rq q100 45 fun j1 =>
  sm_ix x101 7 fun z2 =>
  if x2 = 0 then
   (if ((sI s 45 j1 z2 x102).2.2.1 13 i0 7).1 = 10 then
    (sm_bI (C 21 [vP ((sI s 45 j1 z2 x102).2.2.1 13 i0 7), vI ((sI s 45 j1 z2 x102).1 13 i0 13)] (sI s 45 j1 z2 x102)) sm_tw fun y3 s4 =>
   sm_ix 6 7 fun z5 =>
   some (some none, (sI s4 45 i0 z5 y3)))
   else none)
  else
   (sm_ix 6 7 fun z6 =>
   some (some none, (sI (sI s 45 j1 z2 x102) 45 i0 z6 (-1)))) :=
  (sm_go_x (cd := cd_X3_keepRun) rfl h_X3_keepRun 400 183 _ _ _).trans rfl
theorem h_X3_tellRun : sm_chain 0 cd_X3_tellRun = true := by decide +kernel
set_option maxRecDepth 20000 in
theorem q_X3_tellRun_0 (X : Nat × (Nat → Int32)) (C : sm_C) (i0 : Nat) (x1 : Int32) (s : sm_S) : sm_go (sm_ZZ X) sm_PP true C 44 0 [vP (13, i0), vI x1] [] s =
  if (s.1 13 i0 6) = 0 then
   (some (some (some (vI (-1))), s))
  else
   (if x1 < 0 then
    (some (some (some (vI (-1))), s))
   else
    (if x1 < 7 then
     (sm_ix x1 7 fun z1 =>
     some (some (some (vI (s.1 45 i0 z1))), s))
    else
     (some (some (some (vI (-1))), s)))) :=
  (sm_go_x (cd := cd_X3_tellRun) rfl h_X3_tellRun 400 0 _ _ _).trans rfl
theorem h_X3_push : sm_chain 0 cd_X3_push = true := by decide +kernel
set_option maxRecDepth 20000 in
theorem q_X3_push_0 (X : Nat × (Nat → Int32)) (C : sm_C) (i0 : Nat) (x1 : Int32) (s : sm_S) : sm_go (sm_ZZ X) sm_PP true C 45 0 [vP (13, i0), vI x1] [] s =
  if (s.1 13 i0 8) < 0 then
   (some (some none, s))
  else
   (if (s.1 13 i0 8) < 1560 then
    (sm_ix (s.1 13 i0 8) 1560 fun z1 =>
    some (some none, (sI (sI s 42 i0 z1 x1) 13 i0 8 (((sI s 42 i0 z1 x1).1 13 i0 8) + 1))))
   else
    (some (some none, s))) :=
  (sm_go_x (cd := cd_X3_push) rfl h_X3_push 400 0 _ _ _).trans rfl
theorem h_X3_pop : sm_chain 0 cd_X3_pop = true := by decide +kernel
set_option maxRecDepth 20000 in
theorem q_X3_pop_0 (X : Nat × (Nat → Int32)) (C : sm_C) (i0 : Nat) (s : sm_S) : sm_go (sm_ZZ X) sm_PP true C 46 0 [vP (13, i0)] [] s =
  if 0 < (s.1 13 i0 8) then
   (if 1560 < (s.1 13 i0 8) then
    (some (some (some (vI 0)), s))
   else
    (sm_ix ((sI s 13 i0 8 ((s.1 13 i0 8) - 1)).1 13 i0 8) 1560 fun z1 =>
    some (some (some (vI ((sI s 13 i0 8 ((s.1 13 i0 8) - 1)).1 42 i0 z1))), (sI s 13 i0 8 ((s.1 13 i0 8) - 1)))))
  else
   (some (some (some (vI 0)), s)) :=
  (sm_go_x (cd := cd_X3_pop) rfl h_X3_pop 400 0 _ _ _).trans rfl
theorem h_X3_base : sm_chain 0 cd_X3_base = true := by decide +kernel
set_option maxRecDepth 20000 in
theorem q_X3_base_0 (X : Nat × (Nat → Int32)) (C : sm_C) (i0 : Nat) (s : sm_S) : sm_go (sm_ZZ X) sm_PP true C 47 0 [vP (13, i0)] [] s =
  if 0 < (s.1 13 i0 9) then
   (if 15 < (s.1 13 i0 9) then
    (some (some (some (vI 0)), s))
   else
    (sm_ix ((s.1 13 i0 9) - 1) 15 fun z1 =>
    some (some (some (vI (s.1 43 i0 z1))), s)))
  else
   (some (some (some (vI 0)), s)) :=
  (sm_go_x (cd := cd_X3_base) rfl h_X3_base 400 0 _ _ _).trans rfl
theorem h_X3_nameValue : sm_chain 0 cd_X3_nameValue = true := by decide +kernel
set_option maxRecDepth 20000 in
theorem q_X3_nameValue_0 (X : Nat × (Nat → Int32)) (C : sm_C) (i0 : Nat) (x1 : Int32) (s : sm_S) : sm_go (sm_ZZ X) sm_PP true C 48 0 [vP (13, i0), vI x1, vU] [] s =
  sm_bI (C 47 [vP (13, i0)] s) sm_tw fun y1 s2 =>
  if (y1 + x1) < 0 then
   (some (some (some (vI 0)), s2))
  else
   (if (y1 + x1) < 1560 then
    (sm_ix (y1 + x1) 1560 fun z3 =>
    some (some (some (vI (s2.1 42 i0 z3))), s2))
   else
    (some (some (some (vI 0)), s2))) :=
  (sm_go_x (cd := cd_X3_nameValue) rfl h_X3_nameValue 400 0 _ _ _).trans rfl
theorem h_X3_setName : sm_chain 0 cd_X3_setName = true := by decide +kernel
set_option maxRecDepth 20000 in
theorem q_X3_setName_0 (X : Nat × (Nat → Int32)) (C : sm_C) (i0 : Nat) (x1 : Int32) (x2 : Int32) (s : sm_S) : sm_go (sm_ZZ X) sm_PP true C 49 0 [vP (13, i0), vI x1, vI x2, vU] [] s =
  sm_bI (C 47 [vP (13, i0)] s) sm_tw fun y1 s2 =>
  if (y1 + x1) < 0 then
   (some (some none, s2))
  else
   (if (y1 + x1) < 1560 then
    (sm_ix (y1 + x1) 1560 fun z3 =>
    some (some none, (sI s2 42 i0 z3 x2)))
   else
    (some (some none, s2))) :=
  (sm_go_x (cd := cd_X3_setName) rfl h_X3_setName 400 0 _ _ _).trans rfl
end
