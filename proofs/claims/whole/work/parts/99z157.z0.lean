section
/-! THE MAKERS OF VEHICLES, ROWS, TRAINS -/
theorem h_X6_init : sm_chain 0 cd_X6_init = true := by decide +kernel
set_option maxRecDepth 20000 in
theorem q_X6_init_0 (X : Nat × (Nat → Int32)) (C : sm_C) (i0 : Nat) (x1 : Int32) (x2 : Int32) (x3 : Int32) (s : sm_S) : sm_go (sm_ZZ X) sm_PP true C 120 0 [vP (16, i0), vI x1, vI x2, vI x3] [] s =
  sm_bI (C 306 [vI 0, vI x3] (sI (sI s 16 i0 0 x1) 16 i0 1 x2)) sm_tw fun y1 s2 =>
  if ((sI s2 16 i0 2 y1).1 16 i0 2) < 0 ∨ 100000 < Int32.toNatClampNeg ((sI s2 16 i0 2 y1).1 16 i0 2) ∨ ¬ (0 = 0 ∨ Int32.toNatClampNeg ((sI s2 16 i0 2 y1).1 16 i0 2) = 0) then none else
  some (some none, (sR (sN (sI s2 16 i0 2 y1) 51 (Int32.toNatClampNeg ((sI s2 16 i0 2 y1).1 16 i0 2)) (Int32.toNatClampNeg ((sI s2 16 i0 2 y1).1 16 i0 2))) 16 i0 3 (51, ((sI s2 16 i0 2 y1).2.2.2.2.1 51)))) :=
  (sm_go_x (cd := cd_X6_init) rfl h_X6_init 400 0 _ _ _).trans rfl
theorem h_X8_init : sm_chain 0 cd_X8_init = true := by decide +kernel
set_option maxRecDepth 20000 in
theorem q_X8_init_0 (X : Nat × (Nat → Int32)) (C : sm_C) (i0 : Nat) (q1 : Nat × Nat) (x2 : Int32) (x3 : Int32) (s : sm_S) : sm_go (sm_ZZ X) sm_PP true C 144 0 [vP (18, i0), vP q1, vI x2, vI x3] [] s =
  some (some none, (sI (sI (sR s 18 i0 0 q1) 18 i0 1 x2) 18 i0 2 x3)) :=
  (sm_go_x (cd := cd_X8_init) rfl h_X8_init 400 0 _ _ _).trans rfl
theorem h_X9_init : sm_chain 0 cd_X9_init = true := by decide +kernel
set_option maxRecDepth 20000 in
theorem q_X9_init_0 (X : Nat × (Nat → Int32)) (C : sm_C) (i0 : Nat) (x1 : Int32) (x2 : Int32) (s : sm_S) : sm_go (sm_ZZ X) sm_PP true C 147 0 [vP (19, i0), vI x1, vI x2] [] s =
  some (some none, (sI (sI s 19 i0 0 x1) 19 i0 1 x2)) :=
  (sm_go_x (cd := cd_X9_init) rfl h_X9_init 400 0 _ _ _).trans rfl
theorem f_X6_init (X : Nat × (Nat → Int32)) (d : Nat) (i0 : Nat) (x1 : Int32) (x2 : Int32) (x3 : Int32) (s : sm_S) : sm_callM X true (d + 1) 120 [vP (16, i0), vI x1, vI x2, vI x3] s = sm_go (sm_ZZ X) sm_PP true (sm_callM X true d) 120 0 [vP (16, i0), vI x1, vI x2, vI x3] [] s := sm_callM_eq (by decide) (Nat.le_of_ble_eq_true rfl) rfl
theorem f_X8_init (X : Nat × (Nat → Int32)) (d : Nat) (i0 : Nat) (q1 : Nat × Nat) (x2 : Int32) (x3 : Int32) (s : sm_S) : sm_callM X true (d + 1) 144 [vP (18, i0), vP q1, vI x2, vI x3] s = sm_go (sm_ZZ X) sm_PP true (sm_callM X true d) 144 0 [vP (18, i0), vP q1, vI x2, vI x3] [] s := sm_callM_eq (by decide) (Nat.le_of_ble_eq_true rfl) rfl
theorem f_X9_init (X : Nat × (Nat → Int32)) (d : Nat) (i0 : Nat) (x1 : Int32) (x2 : Int32) (s : sm_S) : sm_callM X true (d + 1) 147 [vP (19, i0), vI x1, vI x2] s = sm_go (sm_ZZ X) sm_PP true (sm_callM X true d) 147 0 [vP (19, i0), vI x1, vI x2] [] s := sm_callM_eq (by decide) (Nat.le_of_ble_eq_true rfl) rfl
end
