section
theorem h_X13_paramsOfFive : sm_chain 0 cd_X13_paramsOfFive = true := by decide +kernel
set_option maxRecDepth 20000 in
theorem q_X13_paramsOfFive_0 (X : Nat × (Nat → Int32)) (C : sm_C) (x0 : Int32) (s : sm_S) : sm_go (sm_ZZ X) sm_PP true C 238 0 [vI x0] [] s =
  if x0 = 12 then
   (some (some (some (vI 1)), s))
  else
   (if x0 = 13 then
    (some (some (some (vI 2)), s))
   else
    (if x0 = 14 then
     (some (some (some (vI 2)), s))
    else
     (if x0 = 15 then
      (some (some (some (vI 3)), s))
     else
      (some (some (some (vI 0)), s))))) :=
  (sm_go_x (cd := cd_X13_paramsOfFive) rfl h_X13_paramsOfFive 400 0 _ _ _).trans rfl
theorem h_X13_paramType : sm_chain 0 cd_X13_paramType = true := by decide +kernel
set_option maxRecDepth 20000 in
theorem q_X13_paramType_0 (X : Nat × (Nat → Int32)) (C : sm_C) (i0 : Nat) (x1 : Int32) (x2 : Int32) (s : sm_S) : sm_go (sm_ZZ X) sm_PP true C 239 0 [vP (23, i0), vI x1, vI x2, vU] [] s =
  if x1 < 12 then
   (sm_rq (s.2.2.1 23 i0 7) 22 fun j1 =>
   sm_ix ((4 * x1) + x2) 48 fun z2 =>
   some (some (some (vI (s.1 61 j1 z2))), s))
  else
   (if x1 = 13 then
    (if x2 = 1 then
     (some (some (some (vI 18)), s))
    else
     (some (some (some (vI 36)), s)))
   else
    (if x1 = 14 then
     (sm_go (sm_ZZ X) sm_PP true C 239 55 [vP (23, i0), vI x1, vI x2, vU] [] s)
    else
     (if x1 = 15 then
      (if x2 = 0 then
       (sm_go (sm_ZZ X) sm_PP true C 239 55 [vP (23, i0), vI x1, vI x2, vU] [] s)
      else
       (some (some (some (vI 36)), s)))
     else
      (some (some (some (vI 36)), s))))) :=
  (sm_go_x (cd := cd_X13_paramType) rfl h_X13_paramType 400 0 _ _ _).trans rfl
set_option maxRecDepth 20000 in
theorem q_X13_paramType_55 (X : Nat × (Nat → Int32)) (C : sm_C) (d0 : sm_V) (d1 : sm_V) (d2 : sm_V) (d3 : sm_V) (s : sm_S) : sm_go (sm_ZZ X) sm_PP true C 239 55 [d0, d1, d2, d3] [] s =
  some (some (some (vI 18)), s) :=
  (sm_go_x (cd := cd_X13_paramType) rfl h_X13_paramType 400 55 _ _ _).trans rfl
theorem h_X13_call : sm_chain 0 cd_X13_call = true := by decide +kernel
set_option maxRecDepth 20000 in
theorem q_X13_call_0 (X : Nat × (Nat → Int32)) (C : sm_C) (i0 : Nat) (s : sm_S) : sm_go (sm_ZZ X) sm_PP true C 240 0 [vP (23, i0), vU, vU, vU, vU, vU, vU] [] s =
  sm_ix (s.1 23 i0 11) 803 fun z1 =>
  sm_bI (C 210 [vP (23, i0), vL (s.2.1 70 i0 z1)] s) sm_tw fun y2 s3 =>
  if y2 = (-1) then
   (sm_bP (C 200 [vP (23, i0), vI 2, vI (s3.1 23 i0 11)] s3) sm_tw fun y4 s5 =>
   sm_rq y4 24 fun _ => sm_tw s5)
  else
   (sm_bV (C 203 [vP (23, i0)] s3) sm_tw fun s7 =>
   sm_bV (C 229 [vP (23, i0), vI 40] s7) sm_tw fun s9 =>
   if y2 < 12 then
    (sm_rq (s9.2.2.1 23 i0 7) 22 fun j10 =>
    sm_ix y2 12 fun z11 =>
    sm_go (sm_ZZ X) sm_PP true C 240 66 [vP (23, i0), vI (s.1 23 i0 11), vI y2, vU, vU, vU, vU] [vI (s9.1 60 j10 z11)] s9)
   else
    (sm_bI (C 238 [vI y2] s9) sm_tw fun y12 s13 =>
    sm_go (sm_ZZ X) sm_PP true C 240 66 [vP (23, i0), vI (s.1 23 i0 11), vI y2, vU, vU, vU, vU] [vI y12] s13)) :=
  (sm_go_x (cd := cd_X13_call) rfl h_X13_call 400 0 _ _ _).trans rfl
set_option maxRecDepth 20000 in
theorem q_X13_call_66 (X : Nat × (Nat → Int32)) (C : sm_C) (i0 : Nat) (x1 : Int32) (x2 : Int32) (d3 : sm_V) (d4 : sm_V) (d5 : sm_V) (d6 : sm_V) (x100 : Int32) (s : sm_S) : sm_go (sm_ZZ X) sm_PP true C 240 66 [vP (23, i0), vI x1, vI x2, d3, d4, d5, d6] [vI x100] s =
  sm_bI (C 204 [vP (23, i0), vI 41] s) sm_tw fun y1 s2 =>
  if y1 = 0 then
   (sm_go (sm_ZZ X) sm_PP true C 240 86 [vP (23, i0), vI x1, vI x2, vI x100, vI 0, vI 1, vU] [] s2)
  else
   (sm_go (sm_ZZ X) sm_PP true C 240 86 [vP (23, i0), vI x1, vI x2, vI x100, vI 0, vI 0, vU] [] s2) :=
  (sm_go_x (cd := cd_X13_call) rfl h_X13_call 400 66 _ _ _).trans rfl
set_option maxRecDepth 20000 in
theorem q_X13_call_86 (X : Nat × (Nat → Int32)) (C : sm_C) (i0 : Nat) (x1 : Int32) (x2 : Int32) (x3 : Int32) (x4 : Int32) (x5 : Int32) (d6 : sm_V) (s : sm_S) : sm_go (sm_ZZ X) sm_PP true C 240 86 [vP (23, i0), vI x1, vI x2, vI x3, vI x4, vI x5, d6] [] s =
  if x5 = 0 then
   (if x4 = x3 then
    (sm_go (sm_ZZ X) sm_PP true C 240 193 [vP (23, i0), vI x1, vI x2, vI x3, vI x4, vI x5, vU] [vI 1, vP (23, i0)] s)
   else
    (sm_go (sm_ZZ X) sm_PP true C 240 193 [vP (23, i0), vI x1, vI x2, vI x3, vI x4, vI x5, vU] [vI 0, vP (23, i0)] s))
  else
   (sm_bI (C 230 [vP (23, i0)] s) sm_tw fun y1 s2 =>
   sm_bI (C 204 [vP (23, i0), vI 44] s2) sm_tw fun y3 s4 =>
   if y3 = 0 then
    (sm_bI (C 204 [vP (23, i0), vI 41] s4) sm_tw fun y5 s6 =>
    if y5 = 0 then
     (sm_go (sm_ZZ X) sm_PP true C 240 121 [vP (23, i0), vI x1, vI x2, vI x3, vI x4, vI x5, vI y1] [vI 0, vP (23, i0)] s6)
    else
     (sm_go (sm_ZZ X) sm_PP true C 240 121 [vP (23, i0), vI x1, vI x2, vI x3, vI x4, vI x5, vI y1] [vI 1, vP (23, i0)] s6))
   else
    (sm_go (sm_ZZ X) sm_PP true C 240 121 [vP (23, i0), vI x1, vI x2, vI x3, vI x4, vI x5, vI y1] [vI 1, vP (23, i0)] s4)) :=
  (sm_go_x (cd := cd_X13_call) rfl h_X13_call 400 86 _ _ _).trans rfl
set_option maxRecDepth 20000 in
theorem q_X13_call_121 (X : Nat × (Nat → Int32)) (C : sm_C) (i0 : Nat) (x1 : Int32) (x2 : Int32) (x3 : Int32) (x4 : Int32) (d5 : sm_V) (x6 : Int32) (q100 : Nat × Nat) (x101 : Int32) (s : sm_S) : sm_go (sm_ZZ X) sm_PP true C 240 121 [vP (23, i0), vI x1, vI x2, vI x3, vI x4, d5, vI x6] [vI x101, vP q100] s =
  if q100.1 = 23 then
   (sm_bV (C 201 [vP q100, vI x101] s) sm_tw fun s2 =>
  if x4 < x3 then
   (sm_bI (C 239 [vP (23, i0), vI x2, vI x4] s2) sm_tw fun y3 s4 =>
   sm_bI (C 185 [vI x6, vI y3] s4) sm_tw fun y5 s6 =>
   if y5 = 0 then
    (sm_go (sm_ZZ X) sm_PP true C 240 151 [vP (23, i0), vI x1, vI x2, vI x3, vI x4, vU, vI x6] [vI 0, vP (23, i0)] s6)
   else
    (sm_go (sm_ZZ X) sm_PP true C 240 151 [vP (23, i0), vI x1, vI x2, vI x3, vI x4, vU, vI x6] [vI 1, vP (23, i0)] s6))
  else
   (sm_go (sm_ZZ X) sm_PP true C 240 151 [vP (23, i0), vI x1, vI x2, vI x3, vI x4, vU, vI x6] [vI 0, vP (23, i0)] s2))
  else none :=
  (sm_go_x (cd := cd_X13_call) rfl h_X13_call 400 121 _ _ _).trans rfl
set_option maxRecDepth 20000 in
theorem q_X13_call_151 (X : Nat × (Nat → Int32)) (C : sm_C) (i0 : Nat) (x1 : Int32) (x2 : Int32) (x3 : Int32) (x4 : Int32) (d5 : sm_V) (d6 : sm_V) (q100 : Nat × Nat) (x101 : Int32) (s : sm_S) : sm_go (sm_ZZ X) sm_PP true C 240 151 [vP (23, i0), vI x1, vI x2, vI x3, vI x4, d5, d6] [vI x101, vP q100] s =
  if q100.1 = 23 then
   (sm_bV (C 202 [vP q100, vI x101, vI (s.1 23 i0 11)] s) sm_tw fun s2 =>
  sm_bI (C 204 [vP (23, i0), vI 44] s2) sm_tw fun y3 s4 =>
  if y3 = 0 then
   (sm_go (sm_ZZ X) sm_PP true C 240 86 [vP (23, i0), vI x1, vI x2, vI x3, vI (x4 + 1), vI y3, vU] [] s4)
  else
   (sm_bV (C 203 [vP (23, i0)] s4) sm_tw fun s6 =>
   sm_go (sm_ZZ X) sm_PP true C 240 86 [vP (23, i0), vI x1, vI x2, vI x3, vI (x4 + 1), vI y3, vU] [] s6))
  else none :=
  (sm_go_x (cd := cd_X13_call) rfl h_X13_call 400 151 _ _ _).trans rfl
set_option maxRecDepth 20000 in
theorem q_X13_call_193 (X : Nat × (Nat → Int32)) (C : sm_C) (i0 : Nat) (x1 : Int32) (x2 : Int32) (d3 : sm_V) (d4 : sm_V) (d5 : sm_V) (d6 : sm_V) (q100 : Nat × Nat) (x101 : Int32) (s : sm_S) : sm_go (sm_ZZ X) sm_PP true C 240 193 [vP (23, i0), vI x1, vI x2, d3, d4, d5, d6] [vI x101, vP q100] s =
  if q100.1 = 23 then
   (sm_bV (C 202 [vP q100, vI x101, vI (s.1 23 i0 11)] s) sm_tw fun s2 =>
  sm_bV (C 203 [vP (23, i0)] (sI s2 23 i0 13 ((s2.1 23 i0 13) - 1))) sm_tw fun s4 =>
  sm_bI (C 207 [vP (23, i0), vI 18, vI x2, vI x1] s4) sm_tw fun y5 s6 =>
  if x2 < 12 then
   (sm_rq ((sI s6 23 i0 20 4).2.2.1 23 i0 7) 22 fun j7 =>
   sm_ix x2 12 fun z8 =>
   some (some (some (vI ((sI s6 23 i0 20 4).1 59 j7 z8))), (sI s6 23 i0 20 4)))
  else
   (if x2 = 12 then
    (some (some (some (vI 18)), (sI s6 23 i0 20 4)))
   else
    (some (some (some (vI 36)), (sI s6 23 i0 20 4)))))
  else none :=
  (sm_go_x (cd := cd_X13_call) rfl h_X13_call 400 193 _ _ _).trans rfl
theorem h_X13_element : sm_chain 0 cd_X13_element = true := by decide +kernel
set_option maxRecDepth 20000 in
theorem q_X13_element_0 (X : Nat × (Nat → Int32)) (C : sm_C) (i0 : Nat) (x1 : Int32) (s : sm_S) : sm_go (sm_ZZ X) sm_PP true C 241 0 [vP (23, i0), vI x1, vU, vU] [] s =
  sm_bV (C 227 [vP (23, i0)] s) sm_tw fun s2 =>
  sm_bV (C 229 [vP (23, i0), vI 91] s2) sm_tw fun s4 =>
  sm_bI (C 230 [vP (23, i0)] s4) sm_tw fun y5 s6 =>
  sm_bI (C 204 [vP (23, i0), vI 93] s6) sm_tw fun y7 s8 =>
  sm_bV (C 201 [vP (23, i0), vI y7] s8) sm_tw fun s10 =>
  sm_bI (C 184 [vI x1] s10) sm_tw fun y11 s12 =>
  if y11 = 0 then
   (sm_go (sm_ZZ X) sm_PP true C 241 49 [vP (23, i0), vI x1, vI (s2.1 23 i0 11), vI y5] [vI 0, vP (23, i0)] s12)
  else
   (if y5 = 36 then
    (sm_go (sm_ZZ X) sm_PP true C 241 49 [vP (23, i0), vI x1, vI (s2.1 23 i0 11), vI y5] [vI 1, vP (23, i0)] s12)
   else
    (sm_go (sm_ZZ X) sm_PP true C 241 49 [vP (23, i0), vI x1, vI (s2.1 23 i0 11), vI y5] [vI 0, vP (23, i0)] s12)) :=
  (sm_go_x (cd := cd_X13_element) rfl h_X13_element 400 0 _ _ _).trans rfl
set_option maxRecDepth 20000 in
theorem q_X13_element_49 (X : Nat × (Nat → Int32)) (C : sm_C) (i0 : Nat) (x1 : Int32) (x2 : Int32) (d3 : sm_V) (q100 : Nat × Nat) (x101 : Int32) (s : sm_S) : sm_go (sm_ZZ X) sm_PP true C 241 49 [vP (23, i0), vI x1, vI x2, d3] [vI x101, vP q100] s =
  if q100.1 = 23 then
   (sm_bV (C 202 [vP q100, vI x101, vI (s.1 23 i0 11)] s) sm_tw fun s2 =>
  sm_bV (C 203 [vP (23, i0)] (sI s2 23 i0 13 ((s2.1 23 i0 13) - 1))) sm_tw fun s4 =>
  sm_bV (C 226 [vP (23, i0), vI 2, vI 0, vI x2] s4) sm_tw fun s6 =>
  some (some (some (vI (x1 - x1 / 18 * 18))), s6))
  else none :=
  (sm_go_x (cd := cd_X13_element) rfl h_X13_element 400 49 _ _ _).trans rfl
theorem h_X13_fieldOf : sm_chain 0 cd_X13_fieldOf = true := by decide +kernel
set_option maxRecDepth 20000 in
theorem q_X13_fieldOf_0 (X : Nat × (Nat → Int32)) (C : sm_C) (x0 : Int64) (s : sm_S) : sm_go (sm_ZZ X) sm_PP true C 242 0 [vL x0, vU, vU, vU] [] s =
  sm_go (sm_ZZ X) sm_PP true C 242 6 [vL x0, vU, vP (5, 45), vI 0] [] s :=
  (sm_go_x (cd := cd_X13_fieldOf) rfl h_X13_fieldOf 400 0 _ _ _).trans rfl
set_option maxRecDepth 20000 in
theorem q_X13_fieldOf_6 (X : Nat × (Nat → Int32)) (C : sm_C) (x0 : Int64) (d1 : sm_V) (d2 : sm_V) (x3 : Int32) (s : sm_S) : sm_go (sm_ZZ X) sm_PP true C 242 6 [vL x0, d1, d2, vI x3] [] s =
  if x3 < 9 then
   (if x3 = 0 then
    (sm_go (sm_ZZ X) sm_PP true C 242 104 [vL x0, vU, vU, vI x3] [vP (5, 45)] s)
   else
    (if x3 = 1 then
     (sm_go (sm_ZZ X) sm_PP true C 242 104 [vL x0, vU, vU, vI x3] [vP (5, 46)] s)
    else
     (if x3 = 2 then
      (sm_go (sm_ZZ X) sm_PP true C 242 104 [vL x0, vU, vU, vI x3] [vP (5, 47)] s)
     else
      (if x3 = 3 then
       (sm_go (sm_ZZ X) sm_PP true C 242 104 [vL x0, vU, vU, vI x3] [vP (5, 48)] s)
      else
       (if x3 = 4 then
        (sm_go (sm_ZZ X) sm_PP true C 242 104 [vL x0, vU, vU, vI x3] [vP (5, 49)] s)
       else
        (if x3 = 5 then
         (sm_go (sm_ZZ X) sm_PP true C 242 104 [vL x0, vU, vU, vI x3] [vP (5, 50)] s)
        else
         (if x3 = 6 then
          (sm_go (sm_ZZ X) sm_PP true C 242 104 [vL x0, vU, vU, vI x3] [vP (5, 51)] s)
         else
          (if x3 = 7 then
           (sm_go (sm_ZZ X) sm_PP true C 242 104 [vL x0, vU, vU, vI x3] [vP (5, 52)] s)
          else
           (sm_go (sm_ZZ X) sm_PP true C 242 104 [vL x0, vU, vU, vI x3] [vP (5, 53)] s)))))))))
  else
   (some (some (some (vI (-1))), s)) :=
  (sm_go_x (cd := cd_X13_fieldOf) rfl h_X13_fieldOf 400 6 _ _ _).trans rfl
set_option maxRecDepth 20000 in
theorem q_X13_fieldOf_104 (X : Nat × (Nat → Int32)) (C : sm_C) (x0 : Int64) (d1 : sm_V) (d2 : sm_V) (x3 : Int32) (i100 : Nat) (s : sm_S) : sm_go (sm_ZZ X) sm_PP true C 242 104 [vL x0, d1, d2, vI x3] [vP (5, i100)] s =
  sm_bL (C 191 [vP (5, i100)] s) sm_tw fun y1 s2 =>
  if (lg_cmp y1 x0) = 0 then
   (some (some (some (vI x3)), s2))
  else
   (sm_go (sm_ZZ X) sm_PP true C 242 6 [vL x0, vU, vP (5, i100), vI (x3 + 1)] [] s2) :=
  (sm_go_x (cd := cd_X13_fieldOf) rfl h_X13_fieldOf 400 104 _ _ _).trans rfl
theorem h_X13_ownerOf : sm_chain 0 cd_X13_ownerOf = true := by decide +kernel
set_option maxRecDepth 20000 in
theorem q_X13_ownerOf_0 (X : Nat × (Nat → Int32)) (C : sm_C) (x0 : Int32) (s : sm_S) : sm_go (sm_ZZ X) sm_PP true C 243 0 [vI x0] [] s =
  if 2 < x0 then
   (if x0 = 3 then
    (some (some (some (vI 15)), s))
   else
    (if x0 = 4 then
     (some (some (some (vI 1)), s))
    else
     (if x0 = 5 then
      (some (some (some (vI 13)), s))
     else
      (if x0 = 6 then
       (some (some (some (vI 14)), s))
      else
       (if x0 = 7 then
        (some (some (some (vI 16)), s))
       else
        (some (some (some (vI 17)), s)))))))
  else
   (some (some (some (vI 0)), s)) :=
  (sm_go_x (cd := cd_X13_ownerOf) rfl h_X13_ownerOf 400 0 _ _ _).trans rfl
theorem h_X13_field : sm_chain 0 cd_X13_field = true := by decide +kernel
set_option maxRecDepth 20000 in
theorem q_X13_field_0 (X : Nat × (Nat → Int32)) (C : sm_C) (i0 : Nat) (x1 : Int32) (s : sm_S) : sm_go (sm_ZZ X) sm_PP true C 244 0 [vP (23, i0), vI x1, vU, vU] [] s =
  sm_bV (C 227 [vP (23, i0)] s) sm_tw fun s2 =>
  sm_bV (C 203 [vP (23, i0)] s2) sm_tw fun s4 =>
  sm_bI (C 205 [vP (23, i0), vI 14] s4) sm_tw fun y5 s6 =>
  if y5 = 0 then
   (sm_ix (s6.1 23 i0 11) 803 fun z7 =>
   if (s6.1 68 i0 z7) = 1 then
    (sm_go (sm_ZZ X) sm_PP true C 244 74 [vP (23, i0), vI x1, vI (s4.1 23 i0 11), vU] [vI 1, vP (23, i0)] s6)
   else
    (sm_go (sm_ZZ X) sm_PP true C 244 74 [vP (23, i0), vI x1, vI (s4.1 23 i0 11), vU] [vI 0, vP (23, i0)] s6))
  else
   (sm_bI (C 184 [vI x1] s6) sm_tw fun y8 s9 =>
   sm_bV (C 202 [vP (23, i0), vI y8, vI (s9.1 23 i0 11)] s9) sm_tw fun s11 =>
   sm_bI (C 207 [vP (23, i0), vI 7, vI 0, vI (s4.1 23 i0 11)] s11) sm_tw fun y12 s13 =>
   sm_bV (C 203 [vP (23, i0)] s13) sm_tw fun s15 =>
   some (some (some (vI 36)), (sI s15 23 i0 20 0))) :=
  (sm_go_x (cd := cd_X13_field) rfl h_X13_field 400 0 _ _ _).trans rfl
set_option maxRecDepth 20000 in
theorem q_X13_field_74 (X : Nat × (Nat → Int32)) (C : sm_C) (i0 : Nat) (x1 : Int32) (x2 : Int32) (d3 : sm_V) (q100 : Nat × Nat) (x101 : Int32) (s : sm_S) : sm_go (sm_ZZ X) sm_PP true C 244 74 [vP (23, i0), vI x1, vI x2, d3] [vI x101, vP q100] s =
  if q100.1 = 23 then
   (sm_bV (C 201 [vP q100, vI x101] s) sm_tw fun s2 =>
  sm_ix (s2.1 23 i0 11) 803 fun z3 =>
  sm_bI (C 242 [vL (s2.2.1 70 i0 z3)] s2) sm_tw fun y4 s5 =>
  if y4 = (-1) then
   (sm_bP (C 200 [vP (23, i0), vI 2, vI (s5.1 23 i0 11)] s5) sm_tw fun y6 s7 =>
   sm_rq y6 24 fun _ => sm_tw s7)
  else
   (sm_bI (C 243 [vI y4] s5) sm_tw fun y8 s9 =>
   sm_bI (C 185 [vI x1, vI y8] s9) sm_tw fun y10 s11 =>
   sm_bV (C 202 [vP (23, i0), vI y10, vI (s11.1 23 i0 11)] s11) sm_tw fun s13 =>
   sm_bV (C 203 [vP (23, i0)] s13) sm_tw fun s15 =>
   sm_bV (C 226 [vP (23, i0), vI 3, vI y4, vI x2] s15) sm_tw fun s17 =>
   if y4 = 1 then
    (some (some (some (vI 0)), s17))
   else
    (some (some (some (vI 36)), s17))))
  else none :=
  (sm_go_x (cd := cd_X13_field) rfl h_X13_field 400 74 _ _ _).trans rfl
theorem h_X13_asked : sm_chain 0 cd_X13_asked = true := by decide +kernel
set_option maxRecDepth 20000 in
theorem q_X13_asked_0 (X : Nat × (Nat → Int32)) (C : sm_C) (i0 : Nat) (x1 : Int32) (s : sm_S) : sm_go (sm_ZZ X) sm_PP true C 245 0 [vP (23, i0), vI x1, vU, vU, vU] [] s =
  sm_bV (C 227 [vP (23, i0)] s) sm_tw fun s2 =>
  sm_bI (C 205 [vP (23, i0), vI 13] s2) sm_tw fun y3 s4 =>
  sm_bV (C 203 [vP (23, i0)] s4) sm_tw fun s6 =>
  sm_ix (s6.1 23 i0 11) 803 fun z7 =>
  if (s6.1 68 i0 z7) = 2 then
   (sm_go (sm_ZZ X) sm_PP true C 245 39 [vP (23, i0), vI x1, vI (s2.1 23 i0 11), vI y3, vU] [vI 1, vP (23, i0)] s6)
  else
   (sm_go (sm_ZZ X) sm_PP true C 245 39 [vP (23, i0), vI x1, vI (s2.1 23 i0 11), vI y3, vU] [vI 0, vP (23, i0)] s6) :=
  (sm_go_x (cd := cd_X13_asked) rfl h_X13_asked 400 0 _ _ _).trans rfl
set_option maxRecDepth 20000 in
theorem q_X13_asked_39 (X : Nat × (Nat → Int32)) (C : sm_C) (i0 : Nat) (x1 : Int32) (x2 : Int32) (x3 : Int32) (d4 : sm_V) (q100 : Nat × Nat) (x101 : Int32) (s : sm_S) : sm_go (sm_ZZ X) sm_PP true C 245 39 [vP (23, i0), vI x1, vI x2, vI x3, d4] [vI x101, vP q100] s =
  if q100.1 = 23 then
   (sm_bV (C 201 [vP q100, vI x101] s) sm_tw fun s2 =>
  sm_ix (s2.1 23 i0 11) 803 fun z3 =>
  if (Int64.toInt32 (s2.2.1 70 i0 z3)) < 36 then
   (sm_ix ((s2.1 23 i0 11) + 1) 803 fun z4 =>
   if (s2.1 68 i0 z4) = 4 then
    (sm_ix ((s2.1 23 i0 11) + 1) 803 fun z5 =>
    if (lg_cmp (s2.2.1 70 i0 z5) 91) = 0 then
     (sm_bV (C 203 [vP (23, i0)] s2) sm_tw fun s7 =>
     sm_bV (C 203 [vP (23, i0)] s7) sm_tw fun s9 =>
     sm_bI (C 204 [vP (23, i0), vI 93] s9) sm_tw fun y10 s11 =>
     sm_bV (C 201 [vP (23, i0), vI y10] s11) sm_tw fun s13 =>
     sm_go (sm_ZZ X) sm_PP true C 245 115 [vP (23, i0), vI x1, vI x2, vI x3, vI ((Int64.toInt32 (s2.2.1 70 i0 z3)) + 18)] [] s13)
    else
     (sm_go (sm_ZZ X) sm_PP true C 245 115 [vP (23, i0), vI x1, vI x2, vI x3, vI (Int64.toInt32 (s2.2.1 70 i0 z3))] [] s2))
   else
    (sm_go (sm_ZZ X) sm_PP true C 245 115 [vP (23, i0), vI x1, vI x2, vI x3, vI (Int64.toInt32 (s2.2.1 70 i0 z3))] [] s2))
  else
   (sm_go (sm_ZZ X) sm_PP true C 245 115 [vP (23, i0), vI x1, vI x2, vI x3, vI (Int64.toInt32 (s2.2.1 70 i0 z3))] [] s2))
  else none :=
  (sm_go_x (cd := cd_X13_asked) rfl h_X13_asked 400 39 _ _ _).trans rfl
set_option maxRecDepth 20000 in
theorem q_X13_asked_115 (X : Nat × (Nat → Int32)) (C : sm_C) (i0 : Nat) (x1 : Int32) (x2 : Int32) (x3 : Int32) (x4 : Int32) (s : sm_S) : sm_go (sm_ZZ X) sm_PP true C 245 115 [vP (23, i0), vI x1, vI x2, vI x3, vI x4] [] s =
  sm_bI (C 186 [vI x1, vI x4] s) sm_tw fun y1 s2 =>
  sm_bV (C 202 [vP (23, i0), vI y1, vI (s2.1 23 i0 11)] s2) sm_tw fun s4 =>
  sm_bV (C 203 [vP (23, i0)] s4) sm_tw fun s6 =>
  if x3 = 0 then
   (sm_go (sm_ZZ X) sm_PP true C 245 145 [vP (23, i0), vI x1, vI x2, vI x3, vI x4] [vI 9, vP (23, i0)] s6)
  else
   (sm_go (sm_ZZ X) sm_PP true C 245 145 [vP (23, i0), vI x1, vI x2, vI x3, vI x4] [vI 8, vP (23, i0)] s6) :=
  (sm_go_x (cd := cd_X13_asked) rfl h_X13_asked 400 115 _ _ _).trans rfl
set_option maxRecDepth 20000 in
theorem q_X13_asked_145 (X : Nat × (Nat → Int32)) (C : sm_C) (i0 : Nat) (d1 : sm_V) (x2 : Int32) (x3 : Int32) (x4 : Int32) (q100 : Nat × Nat) (x101 : Int32) (s : sm_S) : sm_go (sm_ZZ X) sm_PP true C 245 145 [vP (23, i0), d1, vI x2, vI x3, vI x4] [vI x101, vP q100] s =
  if q100.1 = 23 then
   (sm_bI (C 207 [vP q100, vI x101, vI x4, vI x2] s) sm_tw fun y1 s2 =>
  if x3 = 0 then
   (some (some (some (vI 36)), (sI s2 23 i0 20 0)))
  else
   (some (some (some (vI x4)), (sI s2 23 i0 20 0))))
  else none :=
  (sm_go_x (cd := cd_X13_asked) rfl h_X13_asked 400 145 _ _ _).trans rfl
theorem h_X13_typeOf : sm_chain 0 cd_X13_typeOf = true := by decide +kernel
set_option maxRecDepth 20000 in
theorem q_X13_typeOf_0 (X : Nat × (Nat → Int32)) (C : sm_C) (i0 : Nat) (x1 : Int32) (s : sm_S) : sm_go (sm_ZZ X) sm_PP true C 246 0 [vP (23, i0), vI x1] [] s =
  if x1 < 1001 then
   (sm_ix (x1 - 1) 300 fun z1 =>
   some (some (some (vI (s.1 74 i0 z1))), s))
  else
   (sm_ix (x1 - 1001) 200 fun z2 =>
   some (some (some (vI (18 + (s.1 76 i0 z2)))), s)) :=
  (sm_go_x (cd := cd_X13_typeOf) rfl h_X13_typeOf 400 0 _ _ _).trans rfl
theorem h_X13_asVehicle : sm_chain 0 cd_X13_asVehicle = true := by decide +kernel
set_option maxRecDepth 20000 in
theorem q_X13_asVehicle_0 (X : Nat × (Nat → Int32)) (C : sm_C) (x0 : Int32) (s : sm_S) : sm_go (sm_ZZ X) sm_PP true C 247 0 [vI x0] [] s =
  some (some (some (vI (x0 - 1))), s) :=
  (sm_go_x (cd := cd_X13_asVehicle) rfl h_X13_asVehicle 400 0 _ _ _).trans rfl
theorem h_X13_isOf : sm_chain 0 cd_X13_isOf = true := by decide +kernel
set_option maxRecDepth 20000 in
theorem q_X13_isOf_0 (X : Nat × (Nat → Int32)) (C : sm_C) (i0 : Nat) (x1 : Int32) (x2 : Int32) (s : sm_S) : sm_go (sm_ZZ X) sm_PP true C 248 0 [vP (23, i0), vI x1, vI x2] [] s =
  if x1 = 0 then
   (some (some (some (vI 0)), s))
  else
   (sm_bI (C 246 [vP (23, i0), vI x1] s) sm_tw fun y1 s2 =>
   sm_bI (C 185 [vI y1, vI x2] s2) sm_tw fun y3 s4 =>
   if y3 = 0 then
    (some (some (some (vI 0)), s4))
   else
    (some (some (some (vI 1)), s4))) :=
  (sm_go_x (cd := cd_X13_isOf) rfl h_X13_isOf 400 0 _ _ _).trans rfl
theorem h_X13_mass : sm_chain 0 cd_X13_mass = true := by decide +kernel
set_option maxRecDepth 20000 in
theorem q_X13_mass_0 (X : Nat × (Nat → Int32)) (C : sm_C) (i0 : Nat) (x1 : Int32) (s : sm_S) : sm_go (sm_ZZ X) sm_PP true C 249 0 [vP (23, i0), vI x1, vU, vU, vU] [] s =
  sm_ix x1 300 fun z1 =>
  sm_ix ((9 * x1) + 5) 2700 fun z2 =>
  sm_ix ((9 * x1) + 8) 2700 fun z3 =>
  if (s.1 74 i0 z1) = 0 then
   (some (some (some (vI 5)), s))
  else if (s.1 74 i0 z1) = 1 then
   (some (some (some (vI 45)), s))
  else if (s.1 74 i0 z1) = 2 then
   (some (some (some (vI 15)), s))
  else if (s.1 74 i0 z1) = 3 then
   (some (some (some (vI (45 + (s.1 75 i0 z3)))), s))
  else if (s.1 74 i0 z1) = 4 then
   (some (some (some (vI (45 + ((s.1 75 i0 z3) / 2)))), s))
  else if (s.1 74 i0 z1) = 5 then
   (some (some (some (vI (15 + (s.1 75 i0 z2)))), s))
  else if (s.1 74 i0 z1) = 6 then
   (some (some (some (vI (15 + (2 * (s.1 75 i0 z2))))), s))
  else if (s.1 74 i0 z1) = 7 then
   (some (some (some (vI (15 + (s.1 75 i0 z2)))), s))
  else if (s.1 74 i0 z1) = 8 then
   (some (some (some (vI 17)), s))
  else if (s.1 74 i0 z1) = 9 then
   (some (some (some (vI (25 + ((s.1 75 i0 z3) / 2)))), s))
  else if (s.1 74 i0 z1) = 10 then
   (some (some (some (vI ((18 + (s.1 75 i0 z2)) + (s.1 75 i0 z3)))), s))
  else if (s.1 74 i0 z1) = 11 then
   (sm_ix ((9 * x1) + 6) 2700 fun z4 =>
   if (s.1 75 i0 z4) < 0 then
    (some (some (some (vI ((15 + (2 * (s.1 75 i0 z2))) + 1))), s))
   else
    (some (some (some (vI ((15 + (2 * (s.1 75 i0 z2))) + 0))), s)))
  else (sm_ix ((9 * x1) + 7) 2700 fun z5 =>
   some (some (some (vI ((15 + (s.1 75 i0 z2)) + (s.1 75 i0 z5)))), s)) :=
  (sm_go_x (cd := cd_X13_mass) rfl h_X13_mass 400 0 _ _ _).trans rfl
theorem h_X13_grip : sm_chain 0 cd_X13_grip = true := by decide +kernel
set_option maxRecDepth 20000 in
theorem q_X13_grip_0 (X : Nat × (Nat → Int32)) (C : sm_C) (i0 : Nat) (x1 : Int32) (s : sm_S) : sm_go (sm_ZZ X) sm_PP true C 250 0 [vP (23, i0), vI x1] [] s =
  sm_ix x1 300 fun z1 =>
  if (s.1 74 i0 z1) = 1 then
   (some (some (some (vI 10)), s))
  else if (s.1 74 i0 z1) = 2 then
   (some (some (some (vI 0)), s))
  else if (s.1 74 i0 z1) = 3 then
   (some (some (some (vI 15)), s))
  else if (s.1 74 i0 z1) = 4 then
   (some (some (some (vI 20)), s))
  else if (s.1 74 i0 z1) = 5 then
   (some (some (some (vI 0)), s))
  else if (s.1 74 i0 z1) = 6 then
   (some (some (some (vI 0)), s))
  else if (s.1 74 i0 z1) = 7 then
   (some (some (some (vI 0)), s))
  else if (s.1 74 i0 z1) = 8 then
   (some (some (some (vI 25)), s))
  else if (s.1 74 i0 z1) = 9 then
   (some (some (some (vI 17)), s))
  else (some (some (some (vI 0)), s)) :=
  (sm_go_x (cd := cd_X13_grip) rfl h_X13_grip 400 0 _ _ _).trans rfl
theorem h_X13_pull : sm_chain 0 cd_X13_pull = true := by decide +kernel
set_option maxRecDepth 20000 in
theorem q_X13_pull_0 (X : Nat × (Nat → Int32)) (C : sm_C) (i0 : Nat) (x1 : Int32) (s : sm_S) : sm_go (sm_ZZ X) sm_PP true C 251 0 [vP (23, i0), vI x1, vU] [] s =
  sm_ix x1 300 fun z1 =>
  if (s.1 74 i0 z1) = 3 then
   (sm_ix ((9 * x1) + 8) 2700 fun z2 =>
   some (some (some (vI (20 * (s.1 75 i0 z2)))), s))
  else
   (if (s.1 74 i0 z1) = 4 then
    (some (some (some (vI 300)), s))
   else
    (if (s.1 74 i0 z1) = 9 then
     (some (some (some (vI 150)), s))
    else
     (some (some (some (vI 0)), s)))) :=
  (sm_go_x (cd := cd_X13_pull) rfl h_X13_pull 400 0 _ _ _).trans rfl
theorem h_X13_fieldOf_ : sm_chain 0 cd_X13_fieldOf_ = true := by decide +kernel
set_option maxRecDepth 20000 in
theorem q_X13_fieldOf__0 (X : Nat × (Nat → Int32)) (C : sm_C) (i0 : Nat) (x1 : Int32) (x2 : Int32) (s : sm_S) : sm_go (sm_ZZ X) sm_PP true C 252 0 [vP (23, i0), vI x1, vI x2] [] s =
  if x2 = 2 then
   (sm_bI (C 249 [vP (23, i0), vI x1] s) sm_tw fun y1 s2 =>
   some (some (some (vI y1)), s2))
  else
   (if x2 = 3 then
    (sm_bI (C 250 [vP (23, i0), vI x1] s) sm_tw fun y3 s4 =>
    some (some (some (vI y3)), s4))
   else
    (if x2 = 4 then
     (sm_bI (C 251 [vP (23, i0), vI x1] s) sm_tw fun y5 s6 =>
     some (some (some (vI y5)), s6))
    else
     (sm_ix ((9 * x1) + x2) 2700 fun z7 =>
     some (some (some (vI (s.1 75 i0 z7))), s)))) :=
  (sm_go_x (cd := cd_X13_fieldOf_) rfl h_X13_fieldOf_ 400 0 _ _ _).trans rfl
theorem h_X13_push : sm_chain 0 cd_X13_push = true := by decide +kernel
set_option maxRecDepth 20000 in
theorem q_X13_push_0 (X : Nat × (Nat → Int32)) (C : sm_C) (i0 : Nat) (x1 : Int32) (s : sm_S) : sm_go (sm_ZZ X) sm_PP true C 253 0 [vP (23, i0), vI x1] [] s =
  sm_ix (s.1 23 i0 37) 4000 fun z1 =>
  some (some none, (sI (sI s 81 i0 z1 x1) 23 i0 37 (((sI s 81 i0 z1 x1).1 23 i0 37) + 1))) :=
  (sm_go_x (cd := cd_X13_push) rfl h_X13_push 400 0 _ _ _).trans rfl
theorem h_X13_pop : sm_chain 0 cd_X13_pop = true := by decide +kernel
set_option maxRecDepth 20000 in
theorem q_X13_pop_0 (X : Nat × (Nat → Int32)) (C : sm_C) (i0 : Nat) (s : sm_S) : sm_go (sm_ZZ X) sm_PP true C 254 0 [vP (23, i0)] [] s =
  sm_ix ((sI s 23 i0 37 ((s.1 23 i0 37) - 1)).1 23 i0 37) 4000 fun z1 =>
  some (some (some (vI ((sI s 23 i0 37 ((s.1 23 i0 37) - 1)).1 81 i0 z1))), (sI s 23 i0 37 ((s.1 23 i0 37) - 1))) :=
  (sm_go_x (cd := cd_X13_pop) rfl h_X13_pop 400 0 _ _ _).trans rfl
theorem h_X13_ends : sm_chain 0 cd_X13_ends = true := by decide +kernel
set_option maxRecDepth 20000 in
theorem q_X13_ends_0 (X : Nat × (Nat → Int32)) (C : sm_C) (i0 : Nat) (x1 : Int32) (x2 : Int32) (s : sm_S) : sm_go (sm_ZZ X) sm_PP true C 255 0 [vP (23, i0), vI x1, vI x2] [] s =
  sm_rq ((sI s 23 i0 50 x1).2.2.1 23 i0 6) 22 fun j1 =>
  sm_ix x2 4000 fun z2 =>
  some (some none, (sI (sI (sI s 23 i0 50 x1) 23 i0 53 ((sI s 23 i0 50 x1).1 66 j1 z2)) 23 i0 57 1)) :=
  (sm_go_x (cd := cd_X13_ends) rfl h_X13_ends 400 0 _ _ _).trans rfl
theorem h_X13_fault : sm_chain 0 cd_X13_fault = true := by decide +kernel
set_option maxRecDepth 20000 in
theorem q_X13_fault_0 (X : Nat × (Nat → Int32)) (C : sm_C) (i0 : Nat) (x1 : Int32) (x2 : Int32) (x3 : Int32) (s : sm_S) : sm_go (sm_ZZ X) sm_PP true C 256 0 [vP (23, i0), vI x1, vI x2, vI x3] [] s =
  if (s.1 23 i0 27) = 600 then
   (sm_bV (C 255 [vP (23, i0), vI 8, vI x3] s) sm_tw fun s2 =>
   some (some none, s2))
  else
   (if ((sI s 23 i0 27 ((s.1 23 i0 27) + 1)).1 23 i0 47) = 0 then
    (sm_bV (C 255 [vP (23, i0), vI x1, vI x3] (sI s 23 i0 27 ((s.1 23 i0 27) + 1))) sm_tw fun s4 =>
    if x1 = 6 then
     (some (some none, (sI s4 23 i0 52 x2)))
    else
     (some (some none, (sI s4 23 i0 52 0))))
   else
    (sm_ix ((sI (sI s 23 i0 27 ((s.1 23 i0 27) + 1)) 23 i0 47 (((sI s 23 i0 27 ((s.1 23 i0 27) + 1)).1 23 i0 47) - 1)).1 23 i0 47) 200 fun z5 =>
    sm_ix ((sI (sI (sI s 23 i0 27 ((s.1 23 i0 27) + 1)) 23 i0 47 (((sI s 23 i0 27 ((s.1 23 i0 27) + 1)).1 23 i0 47) - 1)) 23 i0 39 ((sI (sI s 23 i0 27 ((s.1 23 i0 27) + 1)) 23 i0 47 (((sI s 23 i0 27 ((s.1 23 i0 27) + 1)).1 23 i0 47) - 1)).1 87 i0 z5)).1 23 i0 47) 200 fun z6 =>
    sm_ix ((sI (sI (sI (sI s 23 i0 27 ((s.1 23 i0 27) + 1)) 23 i0 47 (((sI s 23 i0 27 ((s.1 23 i0 27) + 1)).1 23 i0 47) - 1)) 23 i0 39 ((sI (sI s 23 i0 27 ((s.1 23 i0 27) + 1)) 23 i0 47 (((sI s 23 i0 27 ((s.1 23 i0 27) + 1)).1 23 i0 47) - 1)).1 87 i0 z5)) 23 i0 37 ((sI (sI (sI s 23 i0 27 ((s.1 23 i0 27) + 1)) 23 i0 47 (((sI s 23 i0 27 ((s.1 23 i0 27) + 1)).1 23 i0 47) - 1)) 23 i0 39 ((sI (sI s 23 i0 27 ((s.1 23 i0 27) + 1)) 23 i0 47 (((sI s 23 i0 27 ((s.1 23 i0 27) + 1)).1 23 i0 47) - 1)).1 87 i0 z5)).1 88 i0 z6)).1 23 i0 47) 200 fun z7 =>
    if x1 = 6 then
     (sm_ix ((24 * ((sI (sI (sI (sI s 23 i0 27 ((s.1 23 i0 27) + 1)) 23 i0 47 (((sI s 23 i0 27 ((s.1 23 i0 27) + 1)).1 23 i0 47) - 1)) 23 i0 39 ((sI (sI s 23 i0 27 ((s.1 23 i0 27) + 1)) 23 i0 47 (((sI s 23 i0 27 ((s.1 23 i0 27) + 1)).1 23 i0 47) - 1)).1 87 i0 z5)) 23 i0 37 ((sI (sI (sI s 23 i0 27 ((s.1 23 i0 27) + 1)) 23 i0 47 (((sI s 23 i0 27 ((s.1 23 i0 27) + 1)).1 23 i0 47) - 1)) 23 i0 39 ((sI (sI s 23 i0 27 ((s.1 23 i0 27) + 1)) 23 i0 47 (((sI s 23 i0 27 ((s.1 23 i0 27) + 1)).1 23 i0 47) - 1)).1 87 i0 z5)).1 88 i0 z6)).1 23 i0 39)) + ((sI (sI (sI (sI s 23 i0 27 ((s.1 23 i0 27) + 1)) 23 i0 47 (((sI s 23 i0 27 ((s.1 23 i0 27) + 1)).1 23 i0 47) - 1)) 23 i0 39 ((sI (sI s 23 i0 27 ((s.1 23 i0 27) + 1)) 23 i0 47 (((sI s 23 i0 27 ((s.1 23 i0 27) + 1)).1 23 i0 47) - 1)).1 87 i0 z5)) 23 i0 37 ((sI (sI (sI s 23 i0 27 ((s.1 23 i0 27) + 1)) 23 i0 47 (((sI s 23 i0 27 ((s.1 23 i0 27) + 1)).1 23 i0 47) - 1)) 23 i0 39 ((sI (sI s 23 i0 27 ((s.1 23 i0 27) + 1)) 23 i0 47 (((sI s 23 i0 27 ((s.1 23 i0 27) + 1)).1 23 i0 47) - 1)).1 87 i0 z5)).1 88 i0 z6)).1 89 i0 z7)) 360 fun z8 =>
     sm_ix ((sI (sI (sI (sI (sI s 23 i0 27 ((s.1 23 i0 27) + 1)) 23 i0 47 (((sI s 23 i0 27 ((s.1 23 i0 27) + 1)).1 23 i0 47) - 1)) 23 i0 39 ((sI (sI s 23 i0 27 ((s.1 23 i0 27) + 1)) 23 i0 47 (((sI s 23 i0 27 ((s.1 23 i0 27) + 1)).1 23 i0 47) - 1)).1 87 i0 z5)) 23 i0 37 ((sI (sI (sI s 23 i0 27 ((s.1 23 i0 27) + 1)) 23 i0 47 (((sI s 23 i0 27 ((s.1 23 i0 27) + 1)).1 23 i0 47) - 1)) 23 i0 39 ((sI (sI s 23 i0 27 ((s.1 23 i0 27) + 1)) 23 i0 47 (((sI s 23 i0 27 ((s.1 23 i0 27) + 1)).1 23 i0 47) - 1)).1 87 i0 z5)).1 88 i0 z6)) 82 i0 z8 x2).1 23 i0 47) 200 fun z9 =>
     some (some none, (sI (sI (sI (sI (sI (sI s 23 i0 27 ((s.1 23 i0 27) + 1)) 23 i0 47 (((sI s 23 i0 27 ((s.1 23 i0 27) + 1)).1 23 i0 47) - 1)) 23 i0 39 ((sI (sI s 23 i0 27 ((s.1 23 i0 27) + 1)) 23 i0 47 (((sI s 23 i0 27 ((s.1 23 i0 27) + 1)).1 23 i0 47) - 1)).1 87 i0 z5)) 23 i0 37 ((sI (sI (sI s 23 i0 27 ((s.1 23 i0 27) + 1)) 23 i0 47 (((sI s 23 i0 27 ((s.1 23 i0 27) + 1)).1 23 i0 47) - 1)) 23 i0 39 ((sI (sI s 23 i0 27 ((s.1 23 i0 27) + 1)) 23 i0 47 (((sI s 23 i0 27 ((s.1 23 i0 27) + 1)).1 23 i0 47) - 1)).1 87 i0 z5)).1 88 i0 z6)) 82 i0 z8 x2) 23 i0 48 ((sI (sI (sI (sI (sI s 23 i0 27 ((s.1 23 i0 27) + 1)) 23 i0 47 (((sI s 23 i0 27 ((s.1 23 i0 27) + 1)).1 23 i0 47) - 1)) 23 i0 39 ((sI (sI s 23 i0 27 ((s.1 23 i0 27) + 1)) 23 i0 47 (((sI s 23 i0 27 ((s.1 23 i0 27) + 1)).1 23 i0 47) - 1)).1 87 i0 z5)) 23 i0 37 ((sI (sI (sI s 23 i0 27 ((s.1 23 i0 27) + 1)) 23 i0 47 (((sI s 23 i0 27 ((s.1 23 i0 27) + 1)).1 23 i0 47) - 1)) 23 i0 39 ((sI (sI s 23 i0 27 ((s.1 23 i0 27) + 1)) 23 i0 47 (((sI s 23 i0 27 ((s.1 23 i0 27) + 1)).1 23 i0 47) - 1)).1 87 i0 z5)).1 88 i0 z6)) 82 i0 z8 x2).1 86 i0 z9))))
    else
     (sm_ix ((24 * ((sI (sI (sI (sI s 23 i0 27 ((s.1 23 i0 27) + 1)) 23 i0 47 (((sI s 23 i0 27 ((s.1 23 i0 27) + 1)).1 23 i0 47) - 1)) 23 i0 39 ((sI (sI s 23 i0 27 ((s.1 23 i0 27) + 1)) 23 i0 47 (((sI s 23 i0 27 ((s.1 23 i0 27) + 1)).1 23 i0 47) - 1)).1 87 i0 z5)) 23 i0 37 ((sI (sI (sI s 23 i0 27 ((s.1 23 i0 27) + 1)) 23 i0 47 (((sI s 23 i0 27 ((s.1 23 i0 27) + 1)).1 23 i0 47) - 1)) 23 i0 39 ((sI (sI s 23 i0 27 ((s.1 23 i0 27) + 1)) 23 i0 47 (((sI s 23 i0 27 ((s.1 23 i0 27) + 1)).1 23 i0 47) - 1)).1 87 i0 z5)).1 88 i0 z6)).1 23 i0 39)) + ((sI (sI (sI (sI s 23 i0 27 ((s.1 23 i0 27) + 1)) 23 i0 47 (((sI s 23 i0 27 ((s.1 23 i0 27) + 1)).1 23 i0 47) - 1)) 23 i0 39 ((sI (sI s 23 i0 27 ((s.1 23 i0 27) + 1)) 23 i0 47 (((sI s 23 i0 27 ((s.1 23 i0 27) + 1)).1 23 i0 47) - 1)).1 87 i0 z5)) 23 i0 37 ((sI (sI (sI s 23 i0 27 ((s.1 23 i0 27) + 1)) 23 i0 47 (((sI s 23 i0 27 ((s.1 23 i0 27) + 1)).1 23 i0 47) - 1)) 23 i0 39 ((sI (sI s 23 i0 27 ((s.1 23 i0 27) + 1)) 23 i0 47 (((sI s 23 i0 27 ((s.1 23 i0 27) + 1)).1 23 i0 47) - 1)).1 87 i0 z5)).1 88 i0 z6)).1 89 i0 z7)) 360 fun z10 =>
     sm_ix ((sI (sI (sI (sI (sI s 23 i0 27 ((s.1 23 i0 27) + 1)) 23 i0 47 (((sI s 23 i0 27 ((s.1 23 i0 27) + 1)).1 23 i0 47) - 1)) 23 i0 39 ((sI (sI s 23 i0 27 ((s.1 23 i0 27) + 1)) 23 i0 47 (((sI s 23 i0 27 ((s.1 23 i0 27) + 1)).1 23 i0 47) - 1)).1 87 i0 z5)) 23 i0 37 ((sI (sI (sI s 23 i0 27 ((s.1 23 i0 27) + 1)) 23 i0 47 (((sI s 23 i0 27 ((s.1 23 i0 27) + 1)).1 23 i0 47) - 1)) 23 i0 39 ((sI (sI s 23 i0 27 ((s.1 23 i0 27) + 1)) 23 i0 47 (((sI s 23 i0 27 ((s.1 23 i0 27) + 1)).1 23 i0 47) - 1)).1 87 i0 z5)).1 88 i0 z6)) 82 i0 z10 x1).1 23 i0 47) 200 fun z11 =>
     some (some none, (sI (sI (sI (sI (sI (sI s 23 i0 27 ((s.1 23 i0 27) + 1)) 23 i0 47 (((sI s 23 i0 27 ((s.1 23 i0 27) + 1)).1 23 i0 47) - 1)) 23 i0 39 ((sI (sI s 23 i0 27 ((s.1 23 i0 27) + 1)) 23 i0 47 (((sI s 23 i0 27 ((s.1 23 i0 27) + 1)).1 23 i0 47) - 1)).1 87 i0 z5)) 23 i0 37 ((sI (sI (sI s 23 i0 27 ((s.1 23 i0 27) + 1)) 23 i0 47 (((sI s 23 i0 27 ((s.1 23 i0 27) + 1)).1 23 i0 47) - 1)) 23 i0 39 ((sI (sI s 23 i0 27 ((s.1 23 i0 27) + 1)) 23 i0 47 (((sI s 23 i0 27 ((s.1 23 i0 27) + 1)).1 23 i0 47) - 1)).1 87 i0 z5)).1 88 i0 z6)) 82 i0 z10 x1) 23 i0 48 ((sI (sI (sI (sI (sI s 23 i0 27 ((s.1 23 i0 27) + 1)) 23 i0 47 (((sI s 23 i0 27 ((s.1 23 i0 27) + 1)).1 23 i0 47) - 1)) 23 i0 39 ((sI (sI s 23 i0 27 ((s.1 23 i0 27) + 1)) 23 i0 47 (((sI s 23 i0 27 ((s.1 23 i0 27) + 1)).1 23 i0 47) - 1)).1 87 i0 z5)) 23 i0 37 ((sI (sI (sI s 23 i0 27 ((s.1 23 i0 27) + 1)) 23 i0 47 (((sI s 23 i0 27 ((s.1 23 i0 27) + 1)).1 23 i0 47) - 1)) 23 i0 39 ((sI (sI s 23 i0 27 ((s.1 23 i0 27) + 1)) 23 i0 47 (((sI s 23 i0 27 ((s.1 23 i0 27) + 1)).1 23 i0 47) - 1)).1 87 i0 z5)).1 88 i0 z6)) 82 i0 z10 x1).1 86 i0 z11)))))) :=
  (sm_go_x (cd := cd_X13_fault) rfl h_X13_fault 400 0 _ _ _).trans rfl
theorem h_X13_returns : sm_chain 0 cd_X13_returns = true := by decide +kernel
set_option maxRecDepth 20000 in
theorem q_X13_returns_0 (X : Nat × (Nat → Int32)) (C : sm_C) (i0 : Nat) (x1 : Int32) (x2 : Int32) (s : sm_S) : sm_go (sm_ZZ X) sm_PP true C 257 0 [vP (23, i0), vI x1, vI x2] [] s =
  if 0 < (s.1 23 i0 47) then
   (sm_ix ((s.1 23 i0 47) - 1) 200 fun z1 =>
   if (s.1 87 i0 z1) = (s.1 23 i0 39) then
    (sm_go (sm_ZZ X) sm_PP true C 257 0 [vP (23, i0), vI x1, vI x2] [] (sI s 23 i0 47 ((s.1 23 i0 47) - 1)))
   else
    (sm_go (sm_ZZ X) sm_PP true C 257 38 [vP (23, i0), vI x1, vI x2] [] s))
  else
   (sm_go (sm_ZZ X) sm_PP true C 257 38 [vP (23, i0), vI x1, vI x2] [] s) :=
  (sm_go_x (cd := cd_X13_returns) rfl h_X13_returns 400 0 _ _ _).trans rfl
set_option maxRecDepth 20000 in
theorem q_X13_returns_38 (X : Nat × (Nat → Int32)) (C : sm_C) (i0 : Nat) (x1 : Int32) (x2 : Int32) (s : sm_S) : sm_go (sm_ZZ X) sm_PP true C 257 38 [vP (23, i0), vI x1, vI x2] [] s =
  sm_ix (s.1 23 i0 39) 15 fun z1 =>
  if ((sI s 23 i0 37 (s.1 85 i0 z1)).1 23 i0 39) = 0 then
   (some (some none, (sI (sI (sI (sI s 23 i0 37 (s.1 85 i0 z1)) 23 i0 50 0) 23 i0 51 x1) 23 i0 57 1)))
  else
   (sm_ix ((sI s 23 i0 37 (s.1 85 i0 z1)).1 23 i0 39) 15 fun z2 =>
   if x2 = 0 then
    (some (some none, (sI (sI (sI s 23 i0 37 (s.1 85 i0 z1)) 23 i0 48 ((sI s 23 i0 37 (s.1 85 i0 z1)).1 83 i0 z2)) 23 i0 39 (((sI (sI s 23 i0 37 (s.1 85 i0 z1)) 23 i0 48 ((sI s 23 i0 37 (s.1 85 i0 z1)).1 83 i0 z2)).1 23 i0 39) - 1))))
   else
    (sm_bV (C 253 [vP (23, i0), vI x1] (sI (sI (sI s 23 i0 37 (s.1 85 i0 z1)) 23 i0 48 ((sI s 23 i0 37 (s.1 85 i0 z1)).1 83 i0 z2)) 23 i0 39 (((sI (sI s 23 i0 37 (s.1 85 i0 z1)) 23 i0 48 ((sI s 23 i0 37 (s.1 85 i0 z1)).1 83 i0 z2)).1 23 i0 39) - 1))) sm_tw fun s4 =>
    some (some none, s4))) :=
  (sm_go_x (cd := cd_X13_returns) rfl h_X13_returns 400 38 _ _ _).trans rfl
theorem h_X13_enters : sm_chain 0 cd_X13_enters = true := by decide +kernel
set_option maxRecDepth 20000 in
theorem q_X13_enters_0 (X : Nat × (Nat → Int32)) (C : sm_C) (i0 : Nat) (x1 : Int32) (x2 : Int32) (s : sm_S) : sm_go (sm_ZZ X) sm_PP true C 258 0 [vP (23, i0), vI x1, vI x2, vU, vU] [] s =
  sm_rq (s.2.2.1 23 i0 6) 22 fun j1 =>
  sm_ix x1 12 fun z2 =>
  sm_go (sm_ZZ X) sm_PP true C 258 23 [vP (23, i0), vI x1, vI x2, vI (s.1 60 j1 z2), vI 0] [] (sI s 23 i0 37 ((s.1 23 i0 37) - (s.1 60 j1 z2))) :=
  (sm_go_x (cd := cd_X13_enters) rfl h_X13_enters 400 0 _ _ _).trans rfl
set_option maxRecDepth 20000 in
theorem q_X13_enters_23 (X : Nat × (Nat → Int32)) (C : sm_C) (i0 : Nat) (x1 : Int32) (x2 : Int32) (x3 : Int32) (x4 : Int32) (s : sm_S) : sm_go (sm_ZZ X) sm_PP true C 258 23 [vP (23, i0), vI x1, vI x2, vI x3, vI x4] [] s =
  if x4 < x3 then
   (sm_ix ((s.1 23 i0 37) + x4) 4000 fun z1 =>
   sm_ix ((24 * (s.1 23 i0 39)) + x4) 360 fun z2 =>
   sm_go (sm_ZZ X) sm_PP true C 258 23 [vP (23, i0), vI x1, vI x2, vI x3, vI (x4 + 1)] [] (sI s 82 i0 z2 (s.1 81 i0 z1)))
  else
   (sm_ix (s.1 23 i0 39) 15 fun z3 =>
   sm_ix ((sI s 84 i0 z3 x1).1 23 i0 39) 15 fun z4 =>
   sm_ix ((sI (sI s 84 i0 z3 x1) 83 i0 z4 x2).1 23 i0 39) 15 fun z5 =>
   sm_rq ((sI (sI (sI s 84 i0 z3 x1) 83 i0 z4 x2) 85 i0 z5 ((sI (sI s 84 i0 z3 x1) 83 i0 z4 x2).1 23 i0 37)).2.2.1 23 i0 6) 22 fun j6 =>
   sm_ix x1 12 fun z7 =>
   some (some none, (sI (sI (sI (sI s 84 i0 z3 x1) 83 i0 z4 x2) 85 i0 z5 ((sI (sI s 84 i0 z3 x1) 83 i0 z4 x2).1 23 i0 37)) 23 i0 48 ((sI (sI (sI s 84 i0 z3 x1) 83 i0 z4 x2) 85 i0 z5 ((sI (sI s 84 i0 z3 x1) 83 i0 z4 x2).1 23 i0 37)).1 62 j6 z7)))) :=
  (sm_go_x (cd := cd_X13_enters) rfl h_X13_enters 400 23 _ _ _).trans rfl
theorem h_X13_begins : sm_chain 0 cd_X13_begins = true := by decide +kernel
set_option maxRecDepth 20000 in
theorem q_X13_begins_0 (X : Nat × (Nat → Int32)) (C : sm_C) (i0 : Nat) (x1 : Int32) (x2 : Int32) (s : sm_S) : sm_go (sm_ZZ X) sm_PP true C 259 0 [vP (23, i0), vI x1, vI x2] [] s =
  if x1 < 12 then
   (if (s.1 23 i0 39) = 14 then
    (sm_bV (C 255 [vP (23, i0), vI 9, vI x2] s) sm_tw fun s2 =>
    some (some none, s2))
   else
    (sm_bV (C 258 [vP (23, i0), vI x1, vI (x2 + 1)] (sI s 23 i0 39 ((s.1 23 i0 39) + 1))) sm_tw fun s4 =>
    some (some none, s4)))
  else
   (sm_bV (C 270 [vP (23, i0), vI x1, vI x2] s) sm_tw fun s6 =>
   some (some none, s6)) :=
  (sm_go_x (cd := cd_X13_begins) rfl h_X13_begins 400 0 _ _ _).trans rfl
theorem h_X13_works : sm_chain 0 cd_X13_works = true := by decide +kernel
set_option maxRecDepth 20000 in
theorem q_X13_works_0 (X : Nat × (Nat → Int32)) (C : sm_C) (i0 : Nat) (s : sm_S) : sm_go (sm_ZZ X) sm_PP true C 260 0 [vP (23, i0), vU, vU, vU] [] s =
  if (s.1 23 i0 57) = 0 then
   (sm_rq ((sI s 23 i0 48 ((s.1 23 i0 48) + 1)).2.2.1 23 i0 6) 22 fun j1 =>
   sm_ix (s.1 23 i0 48) 4000 fun z2 =>
   sm_rq ((sI s 23 i0 48 ((s.1 23 i0 48) + 1)).2.2.1 23 i0 6) 22 fun j3 =>
   sm_ix (s.1 23 i0 48) 4000 fun z4 =>
   if ((sI s 23 i0 48 ((s.1 23 i0 48) + 1)).1 63 j1 z2) < 25 then
    (if ((sI s 23 i0 48 ((s.1 23 i0 48) + 1)).1 23 i0 49) = 0 then
     (sm_bV (C 255 [vP (23, i0), vI 7, vI (s.1 23 i0 48)] (sI s 23 i0 48 ((s.1 23 i0 48) + 1))) sm_tw fun s6 =>
     some (some none, s6))
    else
     (sm_bV (C 261 [vP (23, i0), vI ((sI s 23 i0 48 ((s.1 23 i0 48) + 1)).1 63 j1 z2), vI ((sI s 23 i0 48 ((s.1 23 i0 48) + 1)).1 64 j3 z4), vI (s.1 23 i0 48)] (sI (sI s 23 i0 48 ((s.1 23 i0 48) + 1)) 23 i0 49 (((sI s 23 i0 48 ((s.1 23 i0 48) + 1)).1 23 i0 49) - 1))) sm_tw fun s8 =>
     sm_go (sm_ZZ X) sm_PP true C 260 0 [vP (23, i0), vI (s.1 23 i0 48), vI ((sI s 23 i0 48 ((s.1 23 i0 48) + 1)).1 63 j1 z2), vI ((sI s 23 i0 48 ((s.1 23 i0 48) + 1)).1 64 j3 z4)] [] s8))
   else
    (if ((sI s 23 i0 48 ((s.1 23 i0 48) + 1)).1 63 j1 z2) = 25 then
     (sm_go (sm_ZZ X) sm_PP true C 260 0 [vP (23, i0), vI (s.1 23 i0 48), vI ((sI s 23 i0 48 ((s.1 23 i0 48) + 1)).1 63 j1 z2), vI ((sI s 23 i0 48 ((s.1 23 i0 48) + 1)).1 64 j3 z4)] [] (sI (sI s 23 i0 48 ((s.1 23 i0 48) + 1)) 23 i0 37 (((sI s 23 i0 48 ((s.1 23 i0 48) + 1)).1 23 i0 37) - 1)))
    else
     (if ((sI s 23 i0 48 ((s.1 23 i0 48) + 1)).1 63 j1 z2) = 26 then
      (sm_go (sm_ZZ X) sm_PP true C 260 0 [vP (23, i0), vI (s.1 23 i0 48), vI ((sI s 23 i0 48 ((s.1 23 i0 48) + 1)).1 63 j1 z2), vI ((sI s 23 i0 48 ((s.1 23 i0 48) + 1)).1 64 j3 z4)] [] (sI (sI s 23 i0 48 ((s.1 23 i0 48) + 1)) 23 i0 48 ((sI s 23 i0 48 ((s.1 23 i0 48) + 1)).1 64 j3 z4)))
     else
      (if ((sI s 23 i0 48 ((s.1 23 i0 48) + 1)).1 63 j1 z2) = 27 then
       (sm_ix ((sI s 23 i0 48 ((s.1 23 i0 48) + 1)).1 23 i0 47) 200 fun z9 =>
       sm_ix ((sI (sI s 23 i0 48 ((s.1 23 i0 48) + 1)) 86 i0 z9 ((sI s 23 i0 48 ((s.1 23 i0 48) + 1)).1 64 j3 z4)).1 23 i0 47) 200 fun z10 =>
       sm_ix ((sI (sI (sI s 23 i0 48 ((s.1 23 i0 48) + 1)) 86 i0 z9 ((sI s 23 i0 48 ((s.1 23 i0 48) + 1)).1 64 j3 z4)) 87 i0 z10 ((sI (sI s 23 i0 48 ((s.1 23 i0 48) + 1)) 86 i0 z9 ((sI s 23 i0 48 ((s.1 23 i0 48) + 1)).1 64 j3 z4)).1 23 i0 39)).1 23 i0 47) 200 fun z11 =>
       sm_rq ((sI (sI (sI (sI s 23 i0 48 ((s.1 23 i0 48) + 1)) 86 i0 z9 ((sI s 23 i0 48 ((s.1 23 i0 48) + 1)).1 64 j3 z4)) 87 i0 z10 ((sI (sI s 23 i0 48 ((s.1 23 i0 48) + 1)) 86 i0 z9 ((sI s 23 i0 48 ((s.1 23 i0 48) + 1)).1 64 j3 z4)).1 23 i0 39)) 88 i0 z11 ((sI (sI (sI s 23 i0 48 ((s.1 23 i0 48) + 1)) 86 i0 z9 ((sI s 23 i0 48 ((s.1 23 i0 48) + 1)).1 64 j3 z4)) 87 i0 z10 ((sI (sI s 23 i0 48 ((s.1 23 i0 48) + 1)) 86 i0 z9 ((sI s 23 i0 48 ((s.1 23 i0 48) + 1)).1 64 j3 z4)).1 23 i0 39)).1 23 i0 37)).2.2.1 23 i0 6) 22 fun j12 =>
       sm_ix (s.1 23 i0 48) 4000 fun z13 =>
       sm_ix ((sI (sI (sI (sI s 23 i0 48 ((s.1 23 i0 48) + 1)) 86 i0 z9 ((sI s 23 i0 48 ((s.1 23 i0 48) + 1)).1 64 j3 z4)) 87 i0 z10 ((sI (sI s 23 i0 48 ((s.1 23 i0 48) + 1)) 86 i0 z9 ((sI s 23 i0 48 ((s.1 23 i0 48) + 1)).1 64 j3 z4)).1 23 i0 39)) 88 i0 z11 ((sI (sI (sI s 23 i0 48 ((s.1 23 i0 48) + 1)) 86 i0 z9 ((sI s 23 i0 48 ((s.1 23 i0 48) + 1)).1 64 j3 z4)) 87 i0 z10 ((sI (sI s 23 i0 48 ((s.1 23 i0 48) + 1)) 86 i0 z9 ((sI s 23 i0 48 ((s.1 23 i0 48) + 1)).1 64 j3 z4)).1 23 i0 39)).1 23 i0 37)).1 23 i0 47) 200 fun z14 =>
       sm_go (sm_ZZ X) sm_PP true C 260 0 [vP (23, i0), vI (s.1 23 i0 48), vI ((sI s 23 i0 48 ((s.1 23 i0 48) + 1)).1 63 j1 z2), vI ((sI s 23 i0 48 ((s.1 23 i0 48) + 1)).1 64 j3 z4)] [] (sI (sI (sI (sI (sI (sI s 23 i0 48 ((s.1 23 i0 48) + 1)) 86 i0 z9 ((sI s 23 i0 48 ((s.1 23 i0 48) + 1)).1 64 j3 z4)) 87 i0 z10 ((sI (sI s 23 i0 48 ((s.1 23 i0 48) + 1)) 86 i0 z9 ((sI s 23 i0 48 ((s.1 23 i0 48) + 1)).1 64 j3 z4)).1 23 i0 39)) 88 i0 z11 ((sI (sI (sI s 23 i0 48 ((s.1 23 i0 48) + 1)) 86 i0 z9 ((sI s 23 i0 48 ((s.1 23 i0 48) + 1)).1 64 j3 z4)) 87 i0 z10 ((sI (sI s 23 i0 48 ((s.1 23 i0 48) + 1)) 86 i0 z9 ((sI s 23 i0 48 ((s.1 23 i0 48) + 1)).1 64 j3 z4)).1 23 i0 39)).1 23 i0 37)) 89 i0 z14 ((sI (sI (sI (sI s 23 i0 48 ((s.1 23 i0 48) + 1)) 86 i0 z9 ((sI s 23 i0 48 ((s.1 23 i0 48) + 1)).1 64 j3 z4)) 87 i0 z10 ((sI (sI s 23 i0 48 ((s.1 23 i0 48) + 1)) 86 i0 z9 ((sI s 23 i0 48 ((s.1 23 i0 48) + 1)).1 64 j3 z4)).1 23 i0 39)) 88 i0 z11 ((sI (sI (sI s 23 i0 48 ((s.1 23 i0 48) + 1)) 86 i0 z9 ((sI s 23 i0 48 ((s.1 23 i0 48) + 1)).1 64 j3 z4)) 87 i0 z10 ((sI (sI s 23 i0 48 ((s.1 23 i0 48) + 1)) 86 i0 z9 ((sI s 23 i0 48 ((s.1 23 i0 48) + 1)).1 64 j3 z4)).1 23 i0 39)).1 23 i0 37)).1 65 j12 z13)) 23 i0 47 (((sI (sI (sI (sI (sI s 23 i0 48 ((s.1 23 i0 48) + 1)) 86 i0 z9 ((sI s 23 i0 48 ((s.1 23 i0 48) + 1)).1 64 j3 z4)) 87 i0 z10 ((sI (sI s 23 i0 48 ((s.1 23 i0 48) + 1)) 86 i0 z9 ((sI s 23 i0 48 ((s.1 23 i0 48) + 1)).1 64 j3 z4)).1 23 i0 39)) 88 i0 z11 ((sI (sI (sI s 23 i0 48 ((s.1 23 i0 48) + 1)) 86 i0 z9 ((sI s 23 i0 48 ((s.1 23 i0 48) + 1)).1 64 j3 z4)) 87 i0 z10 ((sI (sI s 23 i0 48 ((s.1 23 i0 48) + 1)) 86 i0 z9 ((sI s 23 i0 48 ((s.1 23 i0 48) + 1)).1 64 j3 z4)).1 23 i0 39)).1 23 i0 37)) 89 i0 z14 ((sI (sI (sI (sI s 23 i0 48 ((s.1 23 i0 48) + 1)) 86 i0 z9 ((sI s 23 i0 48 ((s.1 23 i0 48) + 1)).1 64 j3 z4)) 87 i0 z10 ((sI (sI s 23 i0 48 ((s.1 23 i0 48) + 1)) 86 i0 z9 ((sI s 23 i0 48 ((s.1 23 i0 48) + 1)).1 64 j3 z4)).1 23 i0 39)) 88 i0 z11 ((sI (sI (sI s 23 i0 48 ((s.1 23 i0 48) + 1)) 86 i0 z9 ((sI s 23 i0 48 ((s.1 23 i0 48) + 1)).1 64 j3 z4)) 87 i0 z10 ((sI (sI s 23 i0 48 ((s.1 23 i0 48) + 1)) 86 i0 z9 ((sI s 23 i0 48 ((s.1 23 i0 48) + 1)).1 64 j3 z4)).1 23 i0 39)).1 23 i0 37)).1 65 j12 z13)).1 23 i0 47) + 1)))
      else
       (if ((sI s 23 i0 48 ((s.1 23 i0 48) + 1)).1 63 j1 z2) = 28 then
        (sm_go (sm_ZZ X) sm_PP true C 260 0 [vP (23, i0), vI (s.1 23 i0 48), vI ((sI s 23 i0 48 ((s.1 23 i0 48) + 1)).1 63 j1 z2), vI ((sI s 23 i0 48 ((s.1 23 i0 48) + 1)).1 64 j3 z4)] [] (sI (sI s 23 i0 48 ((s.1 23 i0 48) + 1)) 23 i0 47 (((sI s 23 i0 48 ((s.1 23 i0 48) + 1)).1 23 i0 47) - 1)))
       else
        (sm_rq ((sI s 23 i0 48 ((s.1 23 i0 48) + 1)).2.2.1 23 i0 6) 22 fun j15 =>
        sm_ix ((sI s 23 i0 48 ((s.1 23 i0 48) + 1)).1 23 i0 39) 15 fun z16 =>
        sm_ix ((sI s 23 i0 48 ((s.1 23 i0 48) + 1)).1 84 i0 z16) 12 fun z17 =>
        if ((sI s 23 i0 48 ((s.1 23 i0 48) + 1)).1 59 j15 z17) = 38 then
         (sm_bV (C 257 [vP (23, i0), vI 0, vI 0] (sI s 23 i0 48 ((s.1 23 i0 48) + 1))) sm_tw fun s19 =>
         sm_go (sm_ZZ X) sm_PP true C 260 0 [vP (23, i0), vI (s.1 23 i0 48), vI ((sI s 23 i0 48 ((s.1 23 i0 48) + 1)).1 63 j1 z2), vI ((sI s 23 i0 48 ((s.1 23 i0 48) + 1)).1 64 j3 z4)] [] s19)
        else
         (sm_bV (C 257 [vP (23, i0), vI 0, vI 1] (sI s 23 i0 48 ((s.1 23 i0 48) + 1))) sm_tw fun s21 =>
         sm_go (sm_ZZ X) sm_PP true C 260 0 [vP (23, i0), vI (s.1 23 i0 48), vI ((sI s 23 i0 48 ((s.1 23 i0 48) + 1)).1 63 j1 z2), vI ((sI s 23 i0 48 ((s.1 23 i0 48) + 1)).1 64 j3 z4)] [] s21)))))))
  else
   (some (some none, s)) :=
  (sm_go_x (cd := cd_X13_works) rfl h_X13_works 400 0 _ _ _).trans rfl
theorem h_X13_act : sm_chain 0 cd_X13_act = true := by decide +kernel
set_option maxRecDepth 20000 in
theorem q_X13_act_0 (X : Nat × (Nat → Int32)) (C : sm_C) (i0 : Nat) (x1 : Int32) (x2 : Int32) (x3 : Int32) (s : sm_S) : sm_go (sm_ZZ X) sm_PP true C 261 0 [vP (23, i0), vI x1, vI x2, vI x3, vU, vU] [] s =
  if x1 = 0 then
   (sm_bV (C 253 [vP (23, i0), vI x2] s) sm_tw fun s2 =>
   some (some none, s2))
  else if x1 = 1 then
   (sm_ix ((24 * (s.1 23 i0 39)) + x2) 360 fun z3 =>
   sm_bV (C 253 [vP (23, i0), vI (s.1 82 i0 z3)] s) sm_tw fun s5 =>
   some (some none, s5))
  else if x1 = 2 then
   (sm_bI (C 254 [vP (23, i0)] s) sm_tw fun y6 s7 =>
   sm_ix ((24 * (s.1 23 i0 39)) + x2) 360 fun z8 =>
   some (some none, (sI s7 82 i0 z8 y6)))
  else if x1 = 3 then
   (sm_bV (C 264 [vP (23, i0), vI x3] s) sm_tw fun s10 =>
   some (some none, s10))
  else if x1 = 4 then
   (sm_bV (C 265 [vP (23, i0), vI x3] s) sm_tw fun s12 =>
   some (some none, s12))
  else if x1 = 5 then
   (sm_bI (C 254 [vP (23, i0)] s) sm_tw fun y13 s14 =>
   if y13 = 0 then
    (sm_bV (C 256 [vP (23, i0), vI 1, vI 0, vI x3] s14) sm_tw fun s16 =>
    some (some none, s16))
   else
    (sm_bI (C 247 [vI y13] s14) sm_tw fun y17 s18 =>
    sm_bI (C 252 [vP (23, i0), vI y17, vI x2] s18) sm_tw fun y19 s20 =>
    sm_bV (C 253 [vP (23, i0), vI y19] s20) sm_tw fun s22 =>
    some (some none, s22)))
  else if x1 = 6 then
   (sm_bI (C 254 [vP (23, i0)] s) sm_tw fun y23 s24 =>
   sm_bI (C 254 [vP (23, i0)] s24) sm_tw fun y25 s26 =>
   if y25 = 0 then
    (sm_bV (C 256 [vP (23, i0), vI 1, vI 0, vI x3] s26) sm_tw fun s28 =>
    some (some none, s28))
   else
    (sm_bI (C 247 [vI y25] s26) sm_tw fun y29 s30 =>
    sm_ix ((9 * y29) + x2) 2700 fun z31 =>
    some (some none, (sI s30 75 i0 z31 y23))))
  else if x1 = 7 then
   (sm_bI (C 254 [vP (23, i0)] s) sm_tw fun y32 s33 =>
   if y32 = 0 then
    (sm_bV (C 256 [vP (23, i0), vI 1, vI 0, vI x3] s33) sm_tw fun s35 =>
    some (some none, s35))
   else
    (sm_ix (y32 - 1001) 200 fun z36 =>
    sm_bV (C 253 [vP (23, i0), vI (s33.1 78 i0 z36)] s33) sm_tw fun s38 =>
    some (some none, s38)))
  else if x1 = 8 then
   (sm_ix ((s.1 23 i0 37) - 1) 4000 fun z39 =>
   if (s.1 81 i0 z39) = 0 then
    (some (some none, s))
   else
    (sm_ix ((s.1 23 i0 37) - 1) 4000 fun z40 =>
    sm_bI (C 248 [vP (23, i0), vI (s.1 81 i0 z40), vI x2] s) sm_tw fun y41 s42 =>
    if y41 = 0 then
     (sm_bV (C 256 [vP (23, i0), vI 4, vI 0, vI x3] s42) sm_tw fun s44 =>
     some (some none, s44))
    else
     (some (some none, s42))))
  else if x1 = 9 then
   (sm_bI (C 254 [vP (23, i0)] s) sm_tw fun y45 s46 =>
   sm_bI (C 248 [vP (23, i0), vI y45, vI x2] s46) sm_tw fun y47 s48 =>
   if y47 = 0 then
    (sm_bV (C 253 [vP (23, i0), vI 0] s48) sm_tw fun s50 =>
    some (some none, s50))
   else
    (sm_bV (C 253 [vP (23, i0), vI 1] s48) sm_tw fun s52 =>
    some (some none, s52)))
  else if x1 = 10 then
   (sm_bV (C 262 [vP (23, i0), vI x1] s) sm_tw fun s54 =>
   some (some none, s54))
  else if x1 = 11 then
   (sm_bV (C 262 [vP (23, i0), vI x1] s) sm_tw fun s56 =>
   some (some none, s56))
  else if x1 = 12 then
   (sm_bV (C 262 [vP (23, i0), vI x1] s) sm_tw fun s58 =>
   some (some none, s58))
  else if x1 = 13 then
   (sm_bV (C 262 [vP (23, i0), vI x1] s) sm_tw fun s60 =>
   some (some none, s60))
  else if x1 = 14 then
   (sm_bV (C 262 [vP (23, i0), vI x1] s) sm_tw fun s62 =>
   some (some none, s62))
  else if x1 = 15 then
   (sm_bV (C 262 [vP (23, i0), vI x1] s) sm_tw fun s64 =>
   some (some none, s64))
  else if x1 = 16 then
   (sm_bV (C 266 [vP (23, i0), vI x2, vI x3] s) sm_tw fun s66 =>
   some (some none, s66))
  else if x1 = 17 then
   (sm_bV (C 267 [vP (23, i0), vI x2, vI x3] s) sm_tw fun s68 =>
   some (some none, s68))
  else if x1 = 18 then
   (sm_bV (C 259 [vP (23, i0), vI x2, vI x3] s) sm_tw fun s70 =>
   some (some none, s70))
  else if x1 = 19 then
   (sm_bI (C 254 [vP (23, i0)] s) sm_tw fun y71 s72 =>
   if y71 = 0 then
    (some (some none, (sI s72 23 i0 48 x2)))
   else
    (some (some none, s72)))
  else if x1 = 20 then
   (sm_bI (C 254 [vP (23, i0)] s) sm_tw fun y73 s74 =>
   sm_bV (C 263 [vP (23, i0), vI y73] s74) sm_tw fun s76 =>
   some (some none, s76))
  else if x1 = 21 then
   (sm_bI (C 254 [vP (23, i0)] s) sm_tw fun y77 s78 =>
   if y77 = 0 then
    (sm_bV (C 263 [vP (23, i0), vI (-1000)] s78) sm_tw fun s80 =>
    some (some none, s80))
   else
    (if y77 < 1001 then
     (sm_bI (C 247 [vI y77] s78) sm_tw fun y81 s82 =>
     sm_bV (C 263 [vP (23, i0), vI y81] s82) sm_tw fun s84 =>
     some (some none, s84))
    else
     (sm_ix (y77 - 1001) 200 fun z85 =>
     sm_bV (C 263 [vP (23, i0), vI ((-1) - (s78.1 78 i0 z85))] s78) sm_tw fun s87 =>
     some (some none, s87))))
  else if x1 = 22 then
   (sm_bI (C 254 [vP (23, i0)] s) sm_tw fun y88 s89 =>
   sm_bV (C 256 [vP (23, i0), vI 6, vI y88, vI x3] s89) sm_tw fun s91 =>
   some (some none, s91))
  else if x1 = 23 then
   (sm_bI (C 254 [vP (23, i0)] s) sm_tw fun y92 s93 =>
   sm_bV (C 257 [vP (23, i0), vI y92, vI 1] s93) sm_tw fun s95 =>
   some (some none, s95))
  else if x1 = 24 then
   (sm_bV (C 257 [vP (23, i0), vI 0, vI 0] s) sm_tw fun s97 =>
   some (some none, s97))
  else (sm_bV (C 262 [vP (23, i0), vI x1] s) sm_tw fun s99 =>
   some (some none, s99)) :=
  (sm_go_x (cd := cd_X13_act) rfl h_X13_act 400 0 _ _ _).trans rfl
end
