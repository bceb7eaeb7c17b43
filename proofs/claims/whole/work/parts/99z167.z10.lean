section
/-! THE CLASS's MACHINE: items 4 to 16 -/
variable {X : Nat × (Nat → Int32)} {d : Nat} {s σ σ' : sm_S} {W W' : zW} {B : Nat × Nat} {i k m j ci q pc q0 tgt : Nat} {arg ty pl : Int32} {x : zTx} {nm : Nat → Int32} {ops : List Int32} {r : List zFr} {fu : Nat} {g : zG}
theorem k_4 (hm : MC x W q0 (q, pc, nm, ops) r (4, arg, tgt, pl, ty, g)) (h : CG x ci W B (knw x.1 pc) nm ops r (Int32.ofNat (pos vC x.1 pc + 1)) fu σ) : ∃ σ', sm_callM X true (d + 10) 56 [vP (13, 0), vI 4, vI arg] σ = rV σ' ∧ CO x ci B (actM x W (q, pc, nm, ops) r fu (4, arg, tgt, pl, ty, g)) σ' := by
  obtain ⟨σ1, e1, h1⟩ := c_push (X := X) (d := d + 8) (c := arg) h (roomG hm rfl (by simp) rfl)
  rw [dA_4, e1, bV_r]
  exact ⟨σ1, rfl, CO_go hm rfl rfl (by simp) h1⟩
theorem k_5 (hm : MC x W q0 (q, pc, nm, ops) r (5, arg, tgt, pl, ty, g)) (h : CG x ci W B (knw x.1 pc) nm ops r (Int32.ofNat (pos vC x.1 pc + 1)) fu σ) : ∃ σ', sm_callM X true (d + 10) 56 [vP (13, 0), vI 5, vI arg] σ = rV σ' ∧ CO x ci B (actM x W (q, pc, nm, ops) r fu (5, arg, tgt, pl, ty, g)) σ' := by
  obtain ⟨⟨k, t1, t2⟩, -, -⟩ := MC_t hm
  have t1 : arg = Int32.ofNat k := t1
  have hk := (wt_ok hm.1 hm.2.2.2.1).2.2.2.2 _ t2
  have hk : k < 24 := hk
  have e0 := c_nameValue (X := X) (d := d + 7) (z := (k, ty)) h (by rw [knw_e hm.2.2.2.1]; exact t2)
  obtain ⟨σ1, e1, h1⟩ := c_push (X := X) (d := d + 8) (c := nm k) h (roomG hm rfl (by simp) rfl)
  have e0 : sm_callM X true (d + 9) 48 [vP (13, 0), vI (Int32.ofNat k)] σ = rI (nm k) σ := e0
  rw [dA_5, t1, e0, bI_r, e1, bV_r]
  refine ⟨σ1, rfl, ?_⟩
  show CO x ci B (goM W (q, pc, nm, ops) r fu (nm (Int32.ofNat k).toNatClampNeg :: ops)) σ1
  rw [i_tn (by omega)]
  rw [t1] at hm
  exact CO_go hm rfl rfl (by simp) h1
theorem k_6 (hm : MC x W q0 (q, pc, nm, ops) r (6, arg, tgt, pl, ty, g)) (h : CG x ci W B (knw x.1 pc) nm ops r (Int32.ofNat (pos vC x.1 pc + 1)) fu σ) : ∃ σ', sm_callM X true (d + 10) 56 [vP (13, 0), vI 6, vI arg] σ = rV σ' ∧ CO x ci B (actM x W (q, pc, nm, ops) r fu (6, arg, tgt, pl, ty, g)) σ' := by
  obtain ⟨⟨⟨t, S, t1, t2⟩, k, t3, t4⟩, s, hW⟩ := MC_t hm
  have t4 : arg = Int32.ofNat k := t4
  rw [t1] at s
  obtain ⟨c, rest, rfl, v1, v2⟩ := VTs_tail s
  obtain ⟨σ1, e1, h1⟩ := c_pop (X := X) (d := d + 8) h
  obtain ⟨σ2, e2, h2⟩ := c_setName (X := X) (d := d + 7) (c := c) (t := ty) h1 t3
  have e2 : sm_callM X true (d + 9) 49 [vP (13, 0), vI (Int32.ofNat k), vI c] σ1 = rV σ2 := e2
  rw [dA_6, e1, bI_r, t4, e2, bV_r]
  refine ⟨σ2, rfl, Or.inl ⟨(q, pc + 1, fset nm k c, rest), r, ?_, ?_⟩⟩
  · show ((q, pc + 1, fset nm (Int32.ofNat k).toNatClampNeg c, rest) :: r : List zFr) = _
    rw [i_tn (by omega)]
  · obtain ⟨hx, -, hF, hi, -, -⟩ := hm
    have hL := (wt_ok hx hi).2.1 rfl
    have hL : Lands x.1 none (pc + 1) (g.1.drop 1, gSet arg.toNatClampNeg ty g.2.1, g.2.2) := hL
    rw [t4, i_tn (by omega)] at hL
    obtain ⟨e', l1, l2, l3⟩ := Lands_0 hL
    show CG x ci W B (knw x.1 (pc + 1)) (fset nm k c) rest r (Int32.ofNat (pos vC x.1 (pc + 1))) fu σ2
    rw [pos_s hi, if_pos (show vC (6, arg, tgt, pl, ty, g).1 = true from rfl), knw_e l1]
    rw [knw_e hi] at h2
    exact CG_k (fun y hy => l3.2.1 y hy) h2
theorem ops2 {op : Nat} {t u : Int32} {S : List Int32} (hm : MC x W q0 (q, pc, nm, ops) r (op, arg, tgt, pl, ty, g)) (hg : g.1 = u :: t :: S) : ∃ c0 c1 r2, ops = c0 :: c1 :: r2 ∧ VT W u c0 ∧ VT W t c1 ∧ VTs W S r2 := by
  obtain ⟨-, s, hW⟩ := MC_t hm
  have s : VTs W g.1 ops := s
  rw [hg] at s
  obtain ⟨c0, r1, rfl, v0, s1⟩ := VTs_tail s
  obtain ⟨c1, r2, rfl, v1, s2⟩ := VTs_tail s1
  exact ⟨c0, c1, r2, rfl, v0, v1, s2⟩
theorem ops1 {op : Nat} {t : Int32} {S : List Int32} (hm : MC x W q0 (q, pc, nm, ops) r (op, arg, tgt, pl, ty, g)) (hg : g.1 = t :: S) : ∃ c0 r1, ops = c0 :: r1 ∧ VT W t c0 ∧ VTs W S r1 := by
  obtain ⟨-, s, hW⟩ := MC_t hm
  have s : VTs W g.1 ops := s
  rw [hg] at s
  obtain ⟨c0, r1, rfl, v0, s1⟩ := VTs_tail s
  exact ⟨c0, r1, rfl, v0, s1⟩
theorem k_7 (hm : MC x W q0 (q, pc, nm, ops) r (7, arg, tgt, pl, ty, g)) (h : CG x ci W B (knw x.1 pc) nm ops r (Int32.ofNat (pos vC x.1 pc + 1)) fu σ) : ∃ σ', sm_callM X true (d + 10) 56 [vP (13, 0), vI 7, vI arg] σ = rV σ' ∧ CO x ci B (actM x W (q, pc, nm, ops) r fu (7, arg, tgt, pl, ty, g)) σ' := by
  obtain ⟨⟨S, t1, t2⟩, -, -⟩ := MC_t hm
  obtain ⟨c0, c1, r2, rfl, -, -, -⟩ := ops2 hm t1
  obtain ⟨σ1, e1, h1⟩ := c_sg7 (X := X) (d := d + 7) h (roomG hm rfl (by simp) rfl)
  rw [dA_7, e1, bV_r]
  exact ⟨σ1, rfl, CO_go hm rfl rfl (by simp) h1⟩
theorem k_8 (hm : MC x W q0 (q, pc, nm, ops) r (8, arg, tgt, pl, ty, g)) (h : CG x ci W B (knw x.1 pc) nm ops r (Int32.ofNat (pos vC x.1 pc + 1)) fu σ) : ∃ σ', sm_callM X true (d + 10) 56 [vP (13, 0), vI 8, vI arg] σ = rV σ' ∧ CO x ci B (actM x W (q, pc, nm, ops) r fu (8, arg, tgt, pl, ty, g)) σ' := by
  obtain ⟨⟨S, t1, t2⟩, -, -⟩ := MC_t hm
  obtain ⟨c0, c1, r2, rfl, -, -, -⟩ := ops2 hm t1
  obtain ⟨σ1, e1, h1⟩ := c_sg8 (X := X) (d := d + 7) h (roomG hm rfl (by simp) rfl)
  rw [dA_8, e1, bV_r]
  exact ⟨σ1, rfl, CO_go hm rfl rfl (by simp) h1⟩
theorem k_9 (hm : MC x W q0 (q, pc, nm, ops) r (9, arg, tgt, pl, ty, g)) (h : CG x ci W B (knw x.1 pc) nm ops r (Int32.ofNat (pos vC x.1 pc + 1)) fu σ) : ∃ σ', sm_callM X true (d + 10) 56 [vP (13, 0), vI 9, vI arg] σ = rV σ' ∧ CO x ci B (actM x W (q, pc, nm, ops) r fu (9, arg, tgt, pl, ty, g)) σ' := by
  obtain ⟨⟨S, t1, t2⟩, -, -⟩ := MC_t hm
  obtain ⟨c0, c1, r2, rfl, -, -, -⟩ := ops2 hm t1
  obtain ⟨σ1, e1, h1⟩ := c_sg9 (X := X) (d := d + 7) h (roomG hm rfl (by simp) rfl)
  rw [dA_9, e1, bV_r]
  exact ⟨σ1, rfl, CO_go hm rfl rfl (by simp) h1⟩
theorem k_12 (hm : MC x W q0 (q, pc, nm, ops) r (12, arg, tgt, pl, ty, g)) (h : CG x ci W B (knw x.1 pc) nm ops r (Int32.ofNat (pos vC x.1 pc + 1)) fu σ) : ∃ σ', sm_callM X true (d + 10) 56 [vP (13, 0), vI 12, vI arg] σ = rV σ' ∧ CO x ci B (actM x W (q, pc, nm, ops) r fu (12, arg, tgt, pl, ty, g)) σ' := by
  obtain ⟨⟨S, t1, t2⟩, -, -⟩ := MC_t hm
  obtain ⟨c0, c1, r2, rfl, -, -, -⟩ := ops2 hm t1
  obtain ⟨σ1, e1, h1⟩ := c_sg12 (X := X) (d := d + 7) h (roomG hm rfl (by simp) rfl)
  rw [dA_12, e1, bV_r]
  exact ⟨σ1, rfl, CO_go hm rfl rfl (by simp) h1⟩
theorem k_10 (hm : MC x W q0 (q, pc, nm, ops) r (10, arg, tgt, pl, ty, g)) (h : CG x ci W B (knw x.1 pc) nm ops r (Int32.ofNat (pos vC x.1 pc + 1)) fu σ) : ∃ σ', sm_callM X true (d + 10) 56 [vP (13, 0), vI 10, vI arg] σ = rV σ' ∧ CO x ci B (actM x W (q, pc, nm, ops) r fu (10, arg, tgt, pl, ty, g)) σ' := by
  obtain ⟨⟨u, t, S, t1, -, t2⟩, -, -⟩ := MC_t hm
  obtain ⟨c0, c1, r2, rfl, -, -, -⟩ := ops2 hm t1
  obtain ⟨σ1, e1, h1⟩ := c_sg10 (X := X) (d := d + 7) h (roomG hm rfl (by simp) rfl)
  rw [dA_10, e1, bV_r]
  exact ⟨σ1, rfl, CO_go hm rfl rfl (by simp) h1⟩
theorem k_11 (hm : MC x W q0 (q, pc, nm, ops) r (11, arg, tgt, pl, ty, g)) (h : CG x ci W B (knw x.1 pc) nm ops r (Int32.ofNat (pos vC x.1 pc + 1)) fu σ) : ∃ σ', sm_callM X true (d + 10) 56 [vP (13, 0), vI 11, vI arg] σ = rV σ' ∧ CO x ci B (actM x W (q, pc, nm, ops) r fu (11, arg, tgt, pl, ty, g)) σ' := by
  obtain ⟨⟨u, t, S, t1, -, t2⟩, -, -⟩ := MC_t hm
  obtain ⟨c0, c1, r2, rfl, -, -, -⟩ := ops2 hm t1
  obtain ⟨σ1, e1, h1⟩ := c_sg11 (X := X) (d := d + 7) h (roomG hm rfl (by simp) rfl)
  rw [dA_11, e1, bV_r]
  exact ⟨σ1, rfl, CO_go hm rfl rfl (by simp) h1⟩
theorem k_13 (hm : MC x W q0 (q, pc, nm, ops) r (13, arg, tgt, pl, ty, g)) (h : CG x ci W B (knw x.1 pc) nm ops r (Int32.ofNat (pos vC x.1 pc + 1)) fu σ) : ∃ σ', sm_callM X true (d + 10) 56 [vP (13, 0), vI 13, vI arg] σ = rV σ' ∧ CO x ci B (actM x W (q, pc, nm, ops) r fu (13, arg, tgt, pl, ty, g)) σ' := by
  obtain ⟨⟨t, S, t1, t2, t3, t4⟩, -, hW⟩ := MC_t hm
  obtain ⟨c0, r1, rfl, v0, -⟩ := ops1 hm t1
  have hr := roomG hm rfl (by simp) rfl
  obtain ⟨σ1, e1, h1⟩ := c_pop (X := X) (d := d + 7) h
  rw [dA_13, f_X3_doAs, q_X3_doAs_0, e1, bI_r]
  show ∃ σ', _ = rV σ' ∧ CO x ci B (if c0 ≠ 0 ∧ ¬ cBel (tyOf W c0) arg = 1 then raiseM x.1 W _ fu _ 4 4 else goM W _ r fu (c0 :: r1)) σ'
  obtain ⟨σ2, e2, h2⟩ := c_push (X := X) (d := d + 7) (c := c0) h1 hr
  by_cases z : c0 = 0
  · rw [if_pos z, e2, bV_r, if_neg (fun y => y.1 z), bV_r]
    exact ⟨σ2, rfl, CO_go hm rfl rfl (by simp) h2⟩
  · have e3 := c_tyOf (X := X) (d := d + 6) hW h1.1 v0 (cAsk_ref t2) z
    have e3 : sm_callM X true (d + 8) 165 [vP (20, 0), vI c0] σ1 = rI (tyOf W c0) σ1 := e3
    rw [if_neg z, e3, bI_r, c_isBelow, bI_r]
    rcases cBel_01 (tyOf W c0) arg with w | w
    · rw [if_pos w, if_pos ⟨z, by rw [w]; decide⟩]
      obtain ⟨σ3, e3, h3⟩ := c_raise1 (X := X) (d := d + 4) (why := 4) hm h1 rfl (by decide)
      have e3 : sm_callM X true (d + 8) 53 [vP (13, 0), vI 4] σ1 = rV σ3 := e3
      rw [e3, bV_r, bV_r]
      exact ⟨σ3, rfl, h3⟩
    · rw [if_neg (by rw [w]; decide), if_neg (fun y => y.2 w), e2, bV_r, bV_r]
      exact ⟨σ2, rfl, CO_go hm rfl rfl (by simp) h2⟩
theorem k_14 (hm : MC x W q0 (q, pc, nm, ops) r (14, arg, tgt, pl, ty, g)) (h : CG x ci W B (knw x.1 pc) nm ops r (Int32.ofNat (pos vC x.1 pc + 1)) fu σ) : ∃ σ', sm_callM X true (d + 10) 56 [vP (13, 0), vI 14, vI arg] σ = rV σ' ∧ CO x ci B (actM x W (q, pc, nm, ops) r fu (14, arg, tgt, pl, ty, g)) σ' := by
  obtain ⟨⟨t, S, t1, t2, t3, t4⟩, -, hW⟩ := MC_t hm
  obtain ⟨c0, r1, rfl, v0, -⟩ := ops1 hm t1
  have hr := roomG hm rfl (by simp) rfl
  obtain ⟨σ1, e1, h1⟩ := c_pop (X := X) (d := d + 7) h
  rw [dA_14, f_X3_doIs, q_X3_doIs_0, e1, bI_r]
  show ∃ σ', _ = rV σ' ∧ CO x ci B (goM W _ r fu ((if c0 ≠ 0 ∧ cBel (tyOf W c0) arg = 1 then 1 else 0) :: r1)) σ'
  obtain ⟨σ2, e2, h2⟩ := c_push (X := X) (d := d + 7) (c := 0) h1 hr
  obtain ⟨σ3, e3, h3⟩ := c_push (X := X) (d := d + 7) (c := 1) h1 hr
  by_cases z : c0 = 0
  · rw [if_pos z, e2, bV_r, if_neg (fun y => y.1 z), bV_r]
    exact ⟨σ2, rfl, CO_go hm rfl rfl (by simp) h2⟩
  · have e4 := c_tyOf (X := X) (d := d + 6) hW h1.1 v0 (cAsk_ref t2) z
    have e4 : sm_callM X true (d + 8) 165 [vP (20, 0), vI c0] σ1 = rI (tyOf W c0) σ1 := e4
    rw [if_neg z, e4, bI_r, c_isBelow, bI_r]
    rcases cBel_01 (tyOf W c0) arg with w | w
    · rw [if_pos w, if_neg (fun y => by rw [w] at y; exact absurd y.2 (by decide)), e2, bV_r, bV_r]
      exact ⟨σ2, rfl, CO_go hm rfl rfl (by simp) h2⟩
    · rw [if_neg (by rw [w]; decide), if_pos ⟨z, w⟩, e3, bV_r, bV_r]
      exact ⟨σ3, rfl, CO_go hm rfl rfl (by simp) h3⟩
theorem k_15 (hm : MC x W q0 (q, pc, nm, ops) r (15, arg, tgt, pl, ty, g)) (h : CG x ci W B (knw x.1 pc) nm ops r (Int32.ofNat (pos vC x.1 pc + 1)) fu σ) : ∃ σ', sm_callM X true (d + 10) 56 [vP (13, 0), vI 15, vI arg] σ = rV σ' ∧ CO x ci B (actM x W (q, pc, nm, ops) r fu (15, arg, tgt, pl, ty, g)) σ' := by
  obtain ⟨⟨t, S, t1, t2, t3⟩, -, hW⟩ := MC_t hm
  obtain ⟨c0, c1, r2, rfl, -, v1, -⟩ := ops2 hm t1
  have hr := roomG hm rfl (by simp) rfl
  obtain ⟨σ1, e1, h1⟩ := c_pop (X := X) (d := d + 7) h
  obtain ⟨σ2, e2, h2⟩ := c_pop (X := X) (d := d + 7) h1
  have e3 := c_rowOfT (X := X) (d := d + 7) hW h2.1 v1 t2.1 t2.2
  rw [dA_15, f_X3_doAt, q_X3_doAt_0, e1, bI_r, e2, bI_r, e3, bP_r]
  show ∃ σ', _ = rV σ' ∧ CO x ci B (if c1 = 0 then raiseM x.1 W _ fu _ 1 1 else if hasPl W (ixR c1) c0 then goM W _ r fu ((rowAt W (ixR c1)).2.getD c0.toNatClampNeg 0 :: r2) else raiseM x.1 W _ fu _ 2 2) σ'
  by_cases z : c1 = 0
  · obtain ⟨σ3, e3, h3⟩ := c_raise1 (X := X) (d := d + 4) (why := 1) hm h2 rfl (by decide)
    have e3 : sm_callM X true (d + 8) 53 [vP (13, 0), vI 1] σ2 = rV σ3 := e3
    rw [if_pos (pR_0.mpr z), e3, bV_r, bV_r, if_pos z]
    exact ⟨σ3, rfl, h3⟩
  · obtain ⟨n1, n2⟩ := VT_row hW v1 t2.1 t2.2 z
    rw [if_neg (fun y => z (pR_0.mp y)), n2, if_pos rfl, c_hasPlace hW h2.1 n1, bI_r, if_neg z]
    by_cases w : hasPl W (ixR c1) c0
    · have e4 := c_vehAt (X := X) (d := d + 6) hW h2.1 n1 w
      have e4 : sm_callM X true (d + 8) 122 [vP (16, ixR c1), vI c0] σ2 = rP (pV ((rowAt W (ixR c1)).2.getD c0.toNatClampNeg 0)) σ2 := e4
      obtain ⟨k, -, -, -, hc⟩ := hW.2.2.1 _ n1
      have hmem : (rowAt W (ixR c1)).2.getD c0.toNatClampNeg 0 ∈ (rowAt W (ixR c1)).2 := by
        rw [List.getD_eq_getElem?_getD, List.getElem?_eq_getElem w.2]; exact List.getElem_mem w.2
      obtain ⟨σ3, e5, h3⟩ := c_push (X := X) (d := d + 7) (c := (rowAt W (ixR c1)).2.getD c0.toNatClampNeg 0) h2 hr
      rw [if_pos w, if_neg (by decide), e4, bP_r, c_refV hW h2.1 (hc _ hmem), bI_r, e5, bV_r, if_pos rfl, bV_r, if_pos w]
      exact ⟨σ3, rfl, CO_go hm rfl rfl (by simp) h3⟩
    · obtain ⟨σ3, e3, h3⟩ := c_raise1 (X := X) (d := d + 4) (why := 2) hm h2 rfl (by decide)
      have e3 : sm_callM X true (d + 8) 53 [vP (13, 0), vI 2] σ2 = rV σ3 := e3
      rw [if_neg w, if_pos rfl, e3, bV_r, bV_r, if_neg w]
      exact ⟨σ3, rfl, h3⟩
theorem k_16 (hm : MC x W q0 (q, pc, nm, ops) r (16, arg, tgt, pl, ty, g)) (h : CG x ci W B (knw x.1 pc) nm ops r (Int32.ofNat (pos vC x.1 pc + 1)) fu σ) : ∃ σ', sm_callM X true (d + 10) 56 [vP (13, 0), vI 16, vI arg] σ = rV σ' ∧ CO x ci B (actM x W (q, pc, nm, ops) r fu (16, arg, tgt, pl, ty, g)) σ' := by
  obtain ⟨⟨u, t, S, t1, t2, t3⟩, s, hW⟩ := MC_t hm
  have t1 : g.1 = u :: 36 :: t :: S := t1
  have s : VTs W g.1 ops := s
  rw [t1] at s
  obtain ⟨c0, r1, rfl, v0, s1⟩ := VTs_tail s
  obtain ⟨c1, r2, rfl, v1, s2⟩ := VTs_tail s1
  obtain ⟨c2, r3, rfl, v2, s3⟩ := VTs_tail s2
  have w0 := VT_fit v0 t3
  obtain ⟨kt, kt1, kt2⟩ : ∃ b, b < 18 ∧ t = Int32.ofNat (18 + b) := by
    obtain ⟨n, n1, rfl⟩ := i32_nat (n := 36) (by decide) (fun z => t2.1 (by
      rw [Int32.lt_iff_toInt_lt] at z ⊢
      rw [show (0 : Int32).toInt = 0 from rfl] at z
      rw [show (18 : Int32).toInt = 18 from rfl]; omega)) t2.2
    refine ⟨n - 18, by omega, ?_⟩
    have : ¬ n < 18 := fun z => t2.1 ((lt18 n1).mpr z)
    rw [show 18 + (n - 18) = n by omega]
  have e18 : t - 18 = Int32.ofNat kt := by rw [kt2]; exact i_sub (p := 18)
  rw [e18] at w0
  have lt0 : Int32.ofNat kt < 18 := (lt18 (by omega)).mpr kt1
  obtain ⟨σ1, e1, h1⟩ := c_pop (X := X) (d := d + 7) h
  have e2 := c_vehOfT (X := X) (d := d + 7) hW h1.1 w0 lt0
  obtain ⟨σ2, e3, h2⟩ := c_pop (X := X) (d := d + 7) h1
  obtain ⟨σ3, e4, h3⟩ := c_pop (X := X) (d := d + 7) h2
  have e5 := c_rowOfT (X := X) (d := d + 7) hW h3.1 v2 t2.1 t2.2
  rw [dA_16, f_X3_doPut, q_X3_doPut_0, e1, bI_r, e2, bP_r, e3, bI_r, e4, bI_r, e5, bP_r]
  show ∃ σ', _ = rV σ' ∧ CO x ci B (if c2 = 0 then raiseM x.1 W _ fu _ 1 1 else if hasPl W (ixR c2) c1 then (if fitsR W (ixR c2) c0 then goM (setR W (ixR c2) c1.toNatClampNeg c0) _ r fu r3 else raiseM x.1 W _ fu _ 5 5) else raiseM x.1 W _ fu _ 2 2) σ'
  by_cases z : c2 = 0
  · obtain ⟨σ4, e6, h4⟩ := c_raise1 (X := X) (d := d + 4) (why := 1) hm h3 rfl (by decide)
    have e6 : sm_callM X true (d + 8) 53 [vP (13, 0), vI 1] σ3 = rV σ4 := e6
    rw [if_pos (pR_0.mpr z), e6, bV_r, bV_r, if_pos z]
    exact ⟨σ4, rfl, h4⟩
  · obtain ⟨n1, n2⟩ := VT_row hW v2 t2.1 t2.2 z
    rw [if_neg (fun y => z (pR_0.mp y)), n2, if_pos rfl, c_hasPlace hW h3.1 n1, bI_r, if_neg z]
    by_cases w : hasPl W (ixR c2) c1
    · obtain ⟨kc, hc⟩ := VT_c w0 lt0
      have e6 := c_takes (X := X) (d := d + 6) hW h3.1 n1 hc
      have e6 : sm_callM X true (d + 8) 124 [vP (16, ixR c2), vP (pV c0)] σ3 = rI (if fitsR W (ixR c2) c0 then 1 else 0) σ3 := e6
      rw [if_pos w, if_neg (by decide), if_pos w, if_pos rfl, e6, bI_r]
      by_cases y : fitsR W (ixR c2) c0
      · have e7 := c_put (X := X) (d := d + 6) (c := c0) hW h3.1 n1 w
        have e7 : sm_callM X true (d + 8) 123 [vP (16, ixR c2), vI c1, vP (pV c0)] σ3 = rV (sR σ3 51 (ixR c2) c1.toNatClampNeg (pV c0)) := e7
        have h4 := CG_y (by decide) e7 h3 (CW_setR (i := c1.toNatClampNeg) (c := c0) h3.1 n1)
        rw [if_pos y, if_neg (by decide), if_pos rfl, e7, bV_r, bV_r, if_pos y]
        exact ⟨_, rfl, CO_go hm rfl rfl (by simp) h4⟩
      · obtain ⟨σ4, e7, h4⟩ := c_raise1 (X := X) (d := d + 4) (why := 5) hm h3 rfl (by decide)
        have e7 : sm_callM X true (d + 8) 53 [vP (13, 0), vI 5] σ3 = rV σ4 := e7
        rw [if_neg y, if_pos rfl, e7, bV_r, bV_r, if_neg y]
        exact ⟨σ4, rfl, h4⟩
    · obtain ⟨σ4, e6, h4⟩ := c_raise1 (X := X) (d := d + 4) (why := 2) hm h3 rfl (by decide)
      have e6 : sm_callM X true (d + 8) 53 [vP (13, 0), vI 2] σ3 = rV σ4 := e6
      rw [if_neg w, if_pos rfl, e6, bV_r, bV_r, if_neg w]
      exact ⟨σ4, rfl, h4⟩
end
