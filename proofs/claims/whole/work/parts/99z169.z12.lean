section
/-! THE CLASS's MACHINE: items 27 to 32; any item -/
variable {X : Nat × (Nat → Int32)} {d : Nat} {s σ σ' : sm_S} {W W' : zW} {B : Nat × Nat} {i k m j ci q pc q0 tgt : Nat} {arg ty pl c nx : Int32} {x : zTx} {nm : Nat → Int32} {ops S : List Int32} {r : List zFr} {fu : Nat} {g : zG} {K : List (Nat × Int32)} {e : zI} {f : zFr}
theorem k_27 (hm : MC x W q0 (q, pc, nm, ops) r (27, arg, tgt, pl, ty, g)) (h : CG x ci W B (knw x.1 pc) nm ops r (Int32.ofNat (pos vC x.1 pc + 1)) fu σ) : ∃ σ', sm_callM X true (d + 10) 56 [vP (13, 0), vI 27, vI arg] σ = rV σ' ∧ CO x ci B (actM x W (q, pc, nm, ops) r fu (27, arg, tgt, pl, ty, g)) σ' := by
  obtain ⟨⟨k, p, us, S, t1, t2, t3, t4, t5, t6⟩, s, hW⟩ := MC_t hm
  have t3 : arg = Int32.ofNat (5 + k) := t3
  have t4 : g.1 = us.reverse ++ S := t4
  have s : VTs W g.1 ops := s
  have e1 : arg - 5 = Int32.ofNat k := by rw [t3]; exact i_sub (p := 5)
  have e2 : Int32.ofNat k < 12 := by rw [show (12 : Int32) = Int32.ofNat 12 from rfl, i_lt (by omega) (by omega)]; exact t2
  have e3 : (Int32.ofNat k).toNatClampNeg = k := i_tn (by omega)
  have e4 : qPar x.2.2 (arg - 5) = p.2.2.1 := by
    unfold qPar; rw [e1, if_pos e2, e3, t1]; rfl
  have e5 : (x.2.2.getD k ([], 38, [], 0)) = p := by
    rw [List.getD_eq_getElem?_getD, t1]; rfl
  have hgo := knw_go hm rfl (by simp)
  have hi := hm.2.2.2.1
  have hsl := s.1
  rw [t4, List.length_append, List.length_reverse, t5.1] at hsl
  have hh := hgt_FsOk hm.1 _ _ (cur_ok hm.2.2.1 hi).2.2.2
  obtain ⟨⟨b80, -⟩, -⟩ := hm.1.1 _ _ hi
  have b80 : g.1.length ≤ 80 := b80
  have hs1 := s.1
  have hl : r.length + 1 ≤ 15 := hm.2.2.2.2.1
  show ∃ σ', _ = rV σ' ∧ CO x ci B (if r.length < 14 then .inl (W, ((arg - 5).toNatClampNeg, (x.2.2.getD (arg - 5).toNatClampNeg ([], 38, [], 0)).2.2.2, argN (qPar x.2.2 (arg - 5)).length ops, []) :: (q, pc + 1, nm, ops.drop (qPar x.2.2 (arg - 5)).length) :: r, fu) else endM 9 _ W fu 0) σ'
  by_cases z : r.length < 14
  · rw [if_pos z, e4, e1, e3, e5]
    have h' : CG x ci W B (knw x.1 pc) nm ops r (Int32.ofNat (pos vC x.1 (pc + 1))) fu σ := by rw [pos_s hi, if_pos (show vC (27, arg, tgt, pl, ty, g).1 = true from rfl)]; exact h
    obtain ⟨σ1, f1, h1⟩ := c_enter (X := X) (d := d + 6) (q := q) h' t1 (by omega) z hgo (by omega)
    have f1 : sm_callM X true (d + 9) 50 [vP (13, 0), vI (Int32.ofNat (5 + k))] σ = rV σ1 := f1
    rw [dA_27, t3, f1, bV_r]
    obtain ⟨e', l1, l2, l3⟩ := Lands_0 (hm.1.2.2.1 k p t1)
    refine ⟨σ1, rfl, Or.inl ⟨_, _, rfl, ?_⟩⟩
    show CG x ci W B (knw x.1 p.2.2.2) (argN p.2.2.1.length ops) [] _ (Int32.ofNat (pos vC x.1 p.2.2.2)) fu σ1
    rw [knw_e l1]
    exact CG_k (fun y hy => l3.2.1 y hy) h1
  · obtain ⟨σ1, f1, h1⟩ := c_endE (X := X) (d := d + 7) (v := 0) (why := 9) h hi rfl (by decide) (by decide)
    have f1 : sm_callM X true (d + 8) 52 [vP (13, 0), vI 9] σ = rV σ1 := f1
    rw [if_neg z, dA_27, f_X3_enter, q_X3_enter_0, h.2.2.2.2.1, show (15 : Int32) = Int32.ofNat 15 from rfl, if_neg (by rw [i_lt (by omega) (by omega)]; omega), f1, bV_r, bV_r]
    exact ⟨σ1, rfl, h1⟩
theorem k_28 (hm : MC x W q0 (q, pc, nm, ops) r (28, arg, tgt, pl, ty, g)) (h : CG x ci W B (knw x.1 pc) nm ops r (Int32.ofNat (pos vC x.1 pc + 1)) fu σ) : ∃ σ', sm_callM X true (d + 10) 56 [vP (13, 0), vI 28, vI arg] σ = rV σ' ∧ CO x ci B (actM x W (q, pc, nm, ops) r fu (28, arg, tgt, pl, ty, g)) σ' := by
  obtain ⟨⟨S, t1, t2⟩, -, hW⟩ := MC_t hm
  obtain ⟨c0, r1, rfl, v0, -⟩ := ops1 hm t1
  have hr := roomG hm rfl (by simp) rfl
  obtain ⟨σ1, e1, h1⟩ := c_pop (X := X) (d := d + 8) h
  have e2 := c_rowOn (X := X) (d := d + 7) (c := c0) h1.1
  have e2 : sm_callM X true (d + 9) 33 [vP (12, 0), vI c0] σ1 = rP (if isTr c0 then pR (w_t W c0.toNatClampNeg) else (0, 0)) σ1 := e2
  have e3 : (if isTr c0 then pR (w_t W c0.toNatClampNeg) else (0, 0)) = pR (if isTr c0 then w_t W c0.toNatClampNeg else 0) := by split <;> rfl
  have hv : VT W 18 (if isTr c0 then w_t W c0.toNatClampNeg else 0) := by
    by_cases z : isTr c0
    · rw [if_pos z]
      obtain ⟨n, n1, n2, n3⟩ := isTr_n z
      rw [n3]; exact (hW.2.2.2.1 n n1).2
    · rw [if_neg z]; exact VT_0
  obtain ⟨σ2, e4, h2⟩ := c_push (X := X) (d := d + 8) (c := if isTr c0 then w_t W c0.toNatClampNeg else 0) h1 hr
  rw [dA_28, e1, bI_r, e2, bP_r, e3, c_refR hW h1.1 hv, bI_r, e4, bV_r]
  exact ⟨σ2, rfl, CO_go hm rfl rfl (by simp) h2⟩
theorem k_29 (hm : MC x W q0 (q, pc, nm, ops) r (29, arg, tgt, pl, ty, g)) (h : CG x ci W B (knw x.1 pc) nm ops r (Int32.ofNat (pos vC x.1 pc + 1)) fu σ) : ∃ σ', sm_callM X true (d + 10) 56 [vP (13, 0), vI 29, vI arg] σ = rV σ' ∧ CO x ci B (actM x W (q, pc, nm, ops) r fu (29, arg, tgt, pl, ty, g)) σ' := by
  obtain ⟨⟨u, S, t1, t2, t3⟩, -, hW⟩ := MC_t hm
  obtain ⟨c0, c1, r2, rfl, v0, v1, -⟩ := ops2 hm t1
  have w0 := VT_fit v0 t2
  have hr := roomG hm rfl (by simp) rfl
  obtain ⟨σ1, e1, h1⟩ := c_pop (X := X) (d := d + 7) h
  have e2 := c_rowOfT (X := X) (d := d + 7) hW h1.1 w0 (by decide) (by decide)
  obtain ⟨σ2, e3, h2⟩ := c_pop (X := X) (d := d + 7) h1
  have e4 := c_lay (X := X) (d := d + 6) (t := c1) hW h2.1 w0
  have e4 : sm_callM X true (d + 8) 34 [vP (12, 0), vI c1, vP (pR c0)] σ2 = _ := e4
  have e5 := e4
  rw [dA_29, f_X3_doLay, q_X3_doLay_0, e1, bI_r, e2, bP_r, e3, bI_r, e4]
  show ∃ σ', _ = rV σ' ∧ CO x ci B (if isTr c1 ∧ (c0 = 0 ∨ mayLay W c1.toNatClampNeg c0) then goM (wTk W (fset (w_t W) c1.toNatClampNeg c0)) _ r fu (1 :: r2) else goM W _ r fu (0 :: r2)) σ'
  by_cases z : isTr c1 ∧ (c0 = 0 ∨ mayLay W c1.toNatClampNeg c0)
  · rw [if_pos z] at e5
    have h3 := CG_y (by decide) e5 h2 (CW_track (k := c1.toNatClampNeg) (c := c0) h2.1)
    obtain ⟨σ3, e6, h4⟩ := c_push (X := X) (d := d + 7) (c := 1) h3 hr
    rw [if_pos z, bI_r, if_neg (by decide), e6, bV_r, bV_r, if_pos z]
    exact ⟨σ3, rfl, CO_go hm rfl rfl (by simp) h4⟩
  · obtain ⟨σ3, e6, h4⟩ := c_push (X := X) (d := d + 7) (c := 0) h2 hr
    rw [if_neg z, bI_r, if_pos rfl, e6, bV_r, bV_r, if_neg z]
    exact ⟨σ3, rfl, CO_go hm rfl rfl (by simp) h4⟩
theorem k_30 (hm : MC x W q0 (q, pc, nm, ops) r (30, arg, tgt, pl, ty, g)) (h : CG x ci W B (knw x.1 pc) nm ops r (Int32.ofNat (pos vC x.1 pc + 1)) fu σ) : ∃ σ', sm_callM X true (d + 10) 56 [vP (13, 0), vI 30, vI arg] σ = rV σ' ∧ CO x ci B (actM x W (q, pc, nm, ops) r fu (30, arg, tgt, pl, ty, g)) σ' := by
  obtain ⟨⟨u, t, S, t1, t2, t3, t4⟩, -, hW⟩ := MC_t hm
  obtain ⟨c0, c1, r2, rfl, v0, v1, -⟩ := ops2 hm t1
  have w0 := VT_fit v0 t2
  have w1 := VT_fit v1 t3
  have hr := roomG hm rfl (by simp) rfl
  obtain ⟨σ1, e1, h1⟩ := c_pop (X := X) (d := d + 7) h
  have e2 := c_rowOfT (X := X) (d := d + 7) hW h1.1 w0 (by decide) (by decide)
  obtain ⟨σ2, e3, h2⟩ := c_pop (X := X) (d := d + 7) h1
  have e4 := c_rowOfT (X := X) (d := d + 7) hW h2.1 w1 (by decide) (by decide)
  rw [dA_30, f_X3_doHump, q_X3_doHump_0, e1, bI_r, e2, bP_r, e3, bI_r, e4, bP_r]
  show ∃ σ', _ = rV σ' ∧ CO x ci B (if c1 = 0 ∨ c0 = 0 then raiseM x.1 W _ fu _ 1 1 else goM (humpW (ixR c1) (ixR c0) (if ixR c1 = ixR c0 then 0 else (rowAt W (ixR c1)).2.length) 0 W).2 _ r fu (Int32.ofNat (humpW (ixR c1) (ixR c0) (if ixR c1 = ixR c0 then 0 else (rowAt W (ixR c1)).2.length) 0 W).1 :: r2)) σ'
  obtain ⟨σ3, e5, h3⟩ := c_raise1 (X := X) (d := d + 4) (why := 1) hm h2 rfl (by decide)
  have e5 : sm_callM X true (d + 8) 53 [vP (13, 0), vI 1] σ2 = rV σ3 := e5
  by_cases z1 : c1 = 0
  · rw [if_pos (pR_0.mpr z1), e5, bV_r, bV_r, if_pos (Or.inl z1)]
    exact ⟨σ3, rfl, h3⟩
  · rw [if_neg (fun y => z1 (pR_0.mp y))]
    by_cases z0 : c0 = 0
    · rw [if_pos (pR_0.mpr z0), e5, bV_r, bV_r, if_pos (Or.inr z0)]
      exact ⟨σ3, rfl, h3⟩
    · obtain ⟨n0, m0⟩ := VT_row hW w0 (by decide) (by decide) z0
      obtain ⟨n1, m1⟩ := VT_row hW w1 (by decide) (by decide) z1
      obtain ⟨σ4, e6, w4⟩ := c_hump (X := X) (d := d + 5) hW h2.1 n1 n0
      have e6 : sm_callM X true (d + 8) 125 [vP (16, ixR c1), vP (16, ixR c0)] σ2 = _ := e6
      have h4 := CG_y (by decide) e6 h2 w4
      obtain ⟨σ5, e7, h5⟩ := c_push (X := X) (d := d + 7) (c := Int32.ofNat (humpW (ixR c1) (ixR c0) (if ixR c1 = ixR c0 then 0 else (rowAt W (ixR c1)).2.length) 0 W).1) h4 hr
      rw [if_neg (fun y => z0 (pR_0.mp y)), m1, m0, if_pos rfl, e6, bI_r, e7, bV_r, bV_r, if_neg (fun y => y.elim z1 z0)]
      exact ⟨σ5, rfl, CO_go hm rfl rfl (by simp) h5⟩
theorem k_31 (hm : MC x W q0 (q, pc, nm, ops) r (31, arg, tgt, pl, ty, g)) (h : CG x ci W B (knw x.1 pc) nm ops r (Int32.ofNat (pos vC x.1 pc + 1)) fu σ) : ∃ σ', sm_callM X true (d + 10) 56 [vP (13, 0), vI 31, vI arg] σ = rV σ' ∧ CO x ci B (actM x W (q, pc, nm, ops) r fu (31, arg, tgt, pl, ty, g)) σ' := by
  obtain ⟨⟨t, S, t1, t2, t3⟩, s, hW⟩ := MC_t hm
  have t1 : g.1 = 36 :: 36 :: t :: S := t1
  have s : VTs W g.1 ops := s
  rw [t1] at s
  obtain ⟨c0, r1, rfl, v0, s1⟩ := VTs_tail s
  obtain ⟨c1, r2, rfl, v1, s2⟩ := VTs_tail s1
  obtain ⟨c2, r3, rfl, v2, s3⟩ := VTs_tail s2
  have w2 := VT_fit v2 t2
  have hr := roomG hm rfl (by simp) rfl
  obtain ⟨σ1, e1, h1⟩ := c_pop (X := X) (d := d + 7) h
  obtain ⟨σ2, e2, h2⟩ := c_pop (X := X) (d := d + 7) h1
  obtain ⟨σ3, e3, h3⟩ := c_pop (X := X) (d := d + 7) h2
  have e4 := c_rowOfT (X := X) (d := d + 7) hW h3.1 w2 (by decide) (by decide)
  rw [dA_31, f_X3_doSend, q_X3_doSend_0, e1, bI_r, e2, bI_r, e3, bI_r, e4, bP_r]
  show ∃ σ', _ = rV σ' ∧ CO x ci B (if c2 = 0 then raiseM x.1 W _ fu _ 1 1 else goM (sendW W (ixR c2) c1 c0).2 _ r fu ((sendW W (ixR c2) c1 c0).1 :: r3)) σ'
  by_cases z : c2 = 0
  · obtain ⟨σ4, e5, h4⟩ := c_raise1 (X := X) (d := d + 4) (why := 1) hm h3 rfl (by decide)
    have e5 : sm_callM X true (d + 8) 53 [vP (13, 0), vI 1] σ3 = rV σ4 := e5
    rw [if_pos (pR_0.mpr z), e5, bV_r, bV_r, if_pos z]
    exact ⟨σ4, rfl, h4⟩
  · obtain ⟨n2, m2⟩ := VT_row hW w2 (by decide) (by decide) z
    obtain ⟨σ4, e5, w4⟩ := c_send (X := X) (d := d + 6) (t := c1) (c := c0) hW h3.1 n2
    have e5 : sm_callM X true (d + 8) 35 [vP (12, 0), vP (16, ixR c2), vI c1, vI c0] σ3 = _ := e5
    have h4 := CG_y (by decide) e5 h3 w4
    obtain ⟨σ5, e6, h5⟩ := c_push (X := X) (d := d + 7) (c := (sendW W (ixR c2) c1 c0).1) h4 hr
    rw [if_neg (fun y => z (pR_0.mp y)), m2, e5, bI_r, e6, bV_r, bV_r, if_neg z]
    exact ⟨σ5, rfl, CO_go hm rfl rfl (by simp) h5⟩
theorem k_32 (hm : MC x W q0 (q, pc, nm, ops) r (32, arg, tgt, pl, ty, g)) (h : CG x ci W B (knw x.1 pc) nm ops r (Int32.ofNat (pos vC x.1 pc + 1)) fu σ) : ∃ σ', sm_callM X true (d + 10) 56 [vP (13, 0), vI 32, vI arg] σ = rV σ' ∧ CO x ci B (actM x W (q, pc, nm, ops) r fu (32, arg, tgt, pl, ty, g)) σ' := by
  obtain ⟨σ1, e1, h1⟩ := c_push (X := X) (d := d + 8) (c := w_c W) h (roomG hm rfl (by simp) rfl)
  rw [dA_32, h.1.2.2.2.2.1.1, e1, bV_r]
  exact ⟨σ1, rfl, CO_go hm rfl rfl (by simp) h1⟩
theorem k_act (hm : MC x W q0 f r e) (h4 : 4 ≤ e.1) (h33 : e.1 < 33) (h : CG x ci W B (knw x.1 f.2.1) f.2.2.1 f.2.2.2 r (Int32.ofNat (pos vC x.1 f.2.1 + 1)) fu σ) : ∃ σ', sm_callM X true (d + 10) 56 [vP (13, 0), vI (Int32.ofNat (cOp e.1)), vI (cArg x.1 e)] σ = rV σ' ∧ CO x ci B (actM x W f r fu e) σ' := by
  obtain ⟨q, pc, nm, ops⟩ := f
  obtain ⟨op, arg, tgt, pl, ty, g⟩ := e
  have h4 : 4 ≤ op := h4
  have h33 : op < 33 := h33
  match op with
  | 0 => omega
  | 1 => omega
  | 2 => omega
  | 3 => omega
  | 4 => exact k_4 hm h
  | 5 => exact k_5 hm h
  | 6 => exact k_6 hm h
  | 7 => exact k_7 hm h
  | 8 => exact k_8 hm h
  | 9 => exact k_9 hm h
  | 10 => exact k_10 hm h
  | 11 => exact k_11 hm h
  | 12 => exact k_12 hm h
  | 13 => exact k_13 hm h
  | 14 => exact k_14 hm h
  | 15 => exact k_15 hm h
  | 16 => exact k_16 hm h
  | 17 => exact k_17 hm h
  | 18 => exact k_18 hm h
  | 19 => exact k_19 hm h
  | 20 => exact k_20 hm h
  | 21 => exact k_21 hm h
  | 22 => exact k_22 hm h
  | 23 => exact k_23 hm h
  | 24 => exact k_24 hm h
  | 25 => exact k_25 hm h
  | 26 => exact k_26 hm h
  | 27 => exact k_27 hm h
  | 28 => exact k_28 hm h
  | 29 => exact k_29 hm h
  | 30 => exact k_30 hm h
  | 31 => exact k_31 hm h
  | 32 => exact k_32 hm h
  | n + 33 => omega
theorem k_free (hm : MC x W q0 f r e) (hn : ¬ (4 ≤ e.1 ∧ e.1 < 33)) (hv : vC e.1 = true) (h : CG x ci W B (knw x.1 f.2.1) f.2.2.1 f.2.2.2 r (Int32.ofNat (pos vC x.1 f.2.1 + 1)) fu σ) : ∃ σ', sm_callM X true (d + 10) 55 [vP (13, 0), vI (Int32.ofNat (cOp e.1)), vI (cArg x.1 e)] σ = rV σ' ∧ CO x ci B (freeM W f r fu e) σ' := by
  obtain ⟨q, pc, nm, ops⟩ := f
  obtain ⟨op, arg, tgt, pl, ty, g⟩ := e
  obtain ⟨t, s, hW⟩ := MC_t hm
  have hn : ¬ (4 ≤ op ∧ op < 33) := hn
  have h2 : op ≠ 2 := by
    obtain ⟨e', S, h1, h2, -⟩ := hm.2.2.1
    rw [hm.2.2.2.1] at h1
    cases h1
    exact h2
  have hi := hm.2.2.2.1
  have drop : ∀ (t : Int32) (S : List Int32), g.1 = t :: S → vC op = true → falls op = true → (op ≠ 6 ∧ op ≠ 2 ∧ op ≠ 33 ∧ op ≠ 34) → ∃ σ', sm_callM X true (d + 10) 55 [vP (13, 0), vI 1, vI (cArg x.1 (op, arg, tgt, pl, ty, g))] σ = rV σ' ∧ CO x ci B (goM W (q, pc, nm, ops) r fu (ops.drop 1)) σ' := fun t S hg hv' hf ho => by
    obtain ⟨c0, r1, rfl, v0, -⟩ := ops1 hm hg
    obtain ⟨σ1, e1, h1⟩ := c_pop (X := X) (d := d + 8) h
    rw [f_X3_doFree, q_X3_doFree_0, if_neg (by decide), if_pos rfl, e1, bI_r]
    exact ⟨σ1, rfl, CO_go hm hv' hf ho h1⟩
  by_cases z : op < 4
  · match op, z with
    | 0, _ =>
      rw [f_X3_doFree, q_X3_doFree_0]
      refine ⟨sI σ 13 0 10 (Int32.ofNat (pos vC x.1 tgt)), rfl, Or.inl ⟨(q, tgt, nm, ops), r, rfl, ?_⟩⟩
      obtain ⟨hL, -⟩ := (wt_ok hm.1 hi).2.2.1
      have hL : Lands x.1 none tgt g := hL
      obtain ⟨e', l1, l2, l3⟩ := Lands_0 hL
      show CG x ci W B (knw x.1 tgt) nm ops r (Int32.ofNat (pos vC x.1 tgt)) fu _
      rw [knw_e l1]
      have h1 := h
      rw [knw_e hi] at h1
      exact CG_k (fun y hy => l3.2.1 y hy) (CG_nx h1)
    | 1, _ =>
      obtain ⟨t, S, t1, -⟩ := t
      exact drop t S t1 rfl rfl (by decide)
    | 2, _ => exact absurd rfl h2
    | 3, _ =>
      obtain ⟨σ2, e2, h2⟩ := k_lv (X := X) (d := d + 7) (c := 0) h
      have e2 : sm_callM X true (d + 9) 51 [vP (13, 0), vI 0] σ = rV σ2 := e2
      rw [f_X3_doFree, q_X3_doFree_0]
      show ∃ σ', sm_bV (sm_callM X true (d + 9) 51 [vP (13, 0), vI 0] σ) sm_tw (fun s => rV s) = rV σ' ∧ _
      rw [e2, bV_r]
      exact ⟨σ2, rfl, h2⟩
    | n + 4, z => omega
  · obtain ⟨n, rfl⟩ : ∃ n, op = n + 33 := ⟨op - 33, by omega⟩
    match n with
    | 0 => exact absurd (show vC 33 = true from hv) (by decide)
    | 1 => exact absurd (show vC 34 = true from hv) (by decide)
    | 2 =>
      obtain ⟨S, t1⟩ := t
      exact drop 38 S t1 rfl rfl (by decide)
    | n + 3 => exact absurd t (by unfold tOk; simp)
end
