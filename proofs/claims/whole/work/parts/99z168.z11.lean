section
/-! THE CLASS's MACHINE: items 17 to 26 -/
variable {X : Nat × (Nat → Int32)} {d : Nat} {s σ σ' : sm_S} {W W' : zW} {B : Nat × Nat} {i k m j ci q pc q0 tgt : Nat} {arg ty pl c nx : Int32} {x : zTx} {nm : Nat → Int32} {ops S : List Int32} {r : List zFr} {fu : Nat} {g : zG} {K : List (Nat × Int32)} {e : zI} {f : zFr}
theorem k_17 (hm : MC x W q0 (q, pc, nm, ops) r (17, arg, tgt, pl, ty, g)) (h : CG x ci W B (knw x.1 pc) nm ops r (Int32.ofNat (pos vC x.1 pc + 1)) fu σ) : ∃ σ', sm_callM X true (d + 10) 56 [vP (13, 0), vI 17, vI arg] σ = rV σ' ∧ CO x ci B (actM x W (q, pc, nm, ops) r fu (17, arg, tgt, pl, ty, g)) σ' := by
  obtain ⟨⟨t, S, t1, ⟨f, t2, t3⟩, t4, t5⟩, -, hW⟩ := MC_t hm
  have t3 : arg = Int32.ofNat f := t3
  have t4 : cFit t (fOwn arg) = 1 := t4
  obtain ⟨c0, r1, rfl, v0, -⟩ := ops1 hm t1
  have hr := roomG hm rfl (by simp) rfl
  have w0 := VT_fit v0 t4
  rw [t3] at w0
  have l0 := fOwn_lt f t2
  obtain ⟨σ1, e1, h1⟩ := c_pop (X := X) (d := d + 7) h
  have e2 := c_vehOfT (X := X) (d := d + 7) hW h1.1 w0 l0
  rw [dA_17, f_X3_doField, q_X3_doField_0, e1, bI_r, e2, bP_r]
  show ∃ σ', _ = rV σ' ∧ CO x ci B (if c0 = 0 then raiseM x.1 W _ fu _ 1 1 else goM W _ r fu (vFld (vehAt W (ixV c0)) arg.toNatClampNeg :: r1)) σ'
  by_cases z : c0 = 0
  · obtain ⟨σ3, e3, h3⟩ := c_raise1 (X := X) (d := d + 4) (why := 1) hm h1 rfl (by decide)
    have e3 : sm_callM X true (d + 8) 53 [vP (13, 0), vI 1] σ1 = rV σ3 := e3
    rw [if_pos (pV_0.mpr z), e3, bV_r, bV_r, if_pos z]
    exact ⟨σ3, rfl, h3⟩
  · obtain ⟨n1, n2⟩ := VT_veh hW w0 l0 z
    have e3 := c_field (X := X) (d := d + 6) hW h1.1 n1 t2
    have e3 : sm_callM X true (d + 8) 149 [vP (19, ixV c0), vI (Int32.ofNat f)] σ1 = rI (vFld (vehAt W (ixV c0)) f) σ1 := e3
    obtain ⟨σ2, e4, h2⟩ := c_push (X := X) (d := d + 7) (c := vFld (vehAt W (ixV c0)) f) h1 hr
    rw [if_neg (fun y => z (pV_0.mp y)), n2, if_pos rfl, if_neg z]
    subst t3
    rw [e3, bI_r, e4, bV_r, bV_r, i_tn (by omega)]
    exact ⟨σ2, rfl, CO_go hm rfl rfl (by simp) h2⟩
theorem k_18 (hm : MC x W q0 (q, pc, nm, ops) r (18, arg, tgt, pl, ty, g)) (h : CG x ci W B (knw x.1 pc) nm ops r (Int32.ofNat (pos vC x.1 pc + 1)) fu σ) : ∃ σ', sm_callM X true (d + 10) 56 [vP (13, 0), vI 18, vI arg] σ = rV σ' ∧ CO x ci B (actM x W (q, pc, nm, ops) r fu (18, arg, tgt, pl, ty, g)) σ' := by
  obtain ⟨⟨u, t, S, t1, ⟨f, t2, t3⟩, t6, t4, t5⟩, -, hW⟩ := MC_t hm
  have t3 : arg = Int32.ofNat f := t3
  have t4 : cFit t (fOwn arg) = 1 := t4
  have t6 : ¬ (arg = 2 ∨ arg = 3 ∨ arg = 4) := t6
  obtain ⟨c0, c1, r2, rfl, v0, v1, -⟩ := ops2 hm t1
  have w1 := VT_fit v1 t4
  rw [t3] at w1
  have l1 := fOwn_lt f t2
  have hf : isF f := by
    have hk : f = 0 ∨ f = 1 ∨ f = 2 ∨ f = 3 ∨ f = 4 ∨ f = 5 ∨ f = 6 ∨ f = 7 ∨ f = 8 := by omega
    rcases hk with rfl | rfl | rfl | rfl | rfl | rfl | rfl | rfl | rfl
    · decide
    · decide
    · exact absurd (Or.inl t3) t6
    · exact absurd (Or.inr (Or.inl t3)) t6
    · exact absurd (Or.inr (Or.inr t3)) t6
    · decide
    · decide
    · decide
    · decide
  obtain ⟨σ1, e1, h1⟩ := c_pop (X := X) (d := d + 7) h
  obtain ⟨σ2, e2, h2⟩ := c_pop (X := X) (d := d + 7) h1
  have e3 := c_vehOfT (X := X) (d := d + 7) hW h2.1 w1 l1
  rw [dA_18, f_X3_doSetField, q_X3_doSetField_0, e1, bI_r, e2, bI_r, e3, bP_r]
  show ∃ σ', _ = rV σ' ∧ CO x ci B (if c1 = 0 then raiseM x.1 W _ fu _ 1 1 else goM (setV W (ixV c1) arg.toNatClampNeg c0) _ r fu r2) σ'
  by_cases z : c1 = 0
  · obtain ⟨σ3, e4, h3⟩ := c_raise1 (X := X) (d := d + 4) (why := 1) hm h2 rfl (by decide)
    have e4 : sm_callM X true (d + 8) 53 [vP (13, 0), vI 1] σ2 = rV σ3 := e4
    rw [if_pos (pV_0.mpr z), e4, bV_r, bV_r, if_pos z]
    exact ⟨σ3, rfl, h3⟩
  · obtain ⟨n1, n2⟩ := VT_veh hW w1 l1 z
    have e4 := c_setField (X := X) (d := d + 7) (σ := σ2) (v := ixV c1) (x := c0) hf
    have e4 : sm_callM X true (d + 8) 150 [vP (19, ixV c1), vI (Int32.ofNat f), vI c0] σ2 = rV (sI σ2 19 (ixV c1) (fSl f) c0) := e4
    have h3 := CG_y (by decide) e4 h2 (CW_setV (x := c0) h2.1 n1 hf)
    rw [if_neg (fun y => z (pV_0.mp y)), n2, if_pos rfl, if_neg z]
    subst t3
    rw [e4, bV_r, bV_r, i_tn (by omega)]
    exact ⟨_, rfl, CO_go hm rfl rfl (by simp) h3⟩
theorem k_19 (hm : MC x W q0 (q, pc, nm, ops) r (19, arg, tgt, pl, ty, g)) (h : CG x ci W B (knw x.1 pc) nm ops r (Int32.ofNat (pos vC x.1 pc + 1)) fu σ) : ∃ σ', sm_callM X true (d + 10) 56 [vP (13, 0), vI 19, vI arg] σ = rV σ' ∧ CO x ci B (actM x W (q, pc, nm, ops) r fu (19, arg, tgt, pl, ty, g)) σ' := by
  obtain ⟨⟨t, S, t1, t2, t3⟩, -, hW⟩ := MC_t hm
  obtain ⟨c0, r1, rfl, v0, -⟩ := ops1 hm t1
  have hr := roomG hm rfl (by simp) rfl
  obtain ⟨σ1, e1, h1⟩ := c_pop (X := X) (d := d + 7) h
  have e2 := c_rowOfT (X := X) (d := d + 7) hW h1.1 v0 t2.1 t2.2
  rw [dA_19, f_X3_doSize, q_X3_doSize_0, e1, bI_r, e2, bP_r]
  show ∃ σ', _ = rV σ' ∧ CO x ci B (if c0 = 0 then raiseM x.1 W _ fu _ 1 1 else goM W _ r fu (Int32.ofNat (rowAt W (ixR c0)).2.length :: r1)) σ'
  by_cases z : c0 = 0
  · obtain ⟨σ3, e3, h3⟩ := c_raise1 (X := X) (d := d + 4) (why := 1) hm h1 rfl (by decide)
    have e3 : sm_callM X true (d + 8) 53 [vP (13, 0), vI 1] σ1 = rV σ3 := e3
    rw [if_pos (pR_0.mpr z), e3, bV_r, bV_r, if_pos z]
    exact ⟨σ3, rfl, h3⟩
  · obtain ⟨n1, n2⟩ := VT_row hW v0 t2.1 t2.2 z
    obtain ⟨σ2, e4, h2⟩ := c_push (X := X) (d := d + 7) (c := Int32.ofNat (rowAt W (ixR c0)).2.length) h1 hr
    rw [if_neg (fun y => z (pR_0.mp y)), n2, rq_t, (h1.1.2.1.2.2.2.2.1 _ n1).2.2.2.1, e4, bV_r, bV_r, if_neg z]
    exact ⟨σ2, rfl, CO_go hm rfl rfl (by simp) h2⟩
theorem k_20 (hm : MC x W q0 (q, pc, nm, ops) r (20, arg, tgt, pl, ty, g)) (h : CG x ci W B (knw x.1 pc) nm ops r (Int32.ofNat (pos vC x.1 pc + 1)) fu σ) : ∃ σ', sm_callM X true (d + 10) 56 [vP (13, 0), vI 20, vI arg] σ = rV σ' ∧ CO x ci B (actM x W (q, pc, nm, ops) r fu (20, arg, tgt, pl, ty, g)) σ' := by
  obtain ⟨⟨n, t1, t2, t3⟩, -, hW⟩ := MC_t hm
  have hr := roomG hm rfl (by simp) rfl
  have e1 := c_roomV (X := X) (d := d + 7) hW h.1
  rw [dA_20, f_X3_doNewVehicle, q_X3_doNewVehicle_0, e1, bI_r]
  show ∃ σ', _ = rV σ' ∧ CO x ci B (if (w_v W).length < 300 then goM (wV W (w_v W ++ [((arg, fun _ => (0 : Int32)) : zVh)])) _ r fu (rfV (w_v W).length :: ops) else endM 8 _ W fu 0) σ'
  by_cases z : (w_v W).length < 300
  · obtain ⟨σ1, e2, w1⟩ := c_makeV (X := X) (d := d + 6) (x := arg) hW h.1 z
    have e2 : sm_callM X true (d + 8) 159 [vP (20, 0), vI arg] σ = rI (rfV (w_v W).length) σ1 := e2
    have h1 := CG_y (by decide) e2 h w1
    obtain ⟨σ2, e4, h2⟩ := c_push (X := X) (d := d + 7) (c := rfV (w_v W).length) h1 hr
    rw [if_pos z, if_neg (by decide), e2, bI_r, e4, bV_r, bV_r, if_pos z]
    exact ⟨σ2, rfl, CO_go hm rfl rfl (by simp) h2⟩
  · obtain ⟨σ1, e2, h1⟩ := c_endE (X := X) (d := d + 7) (v := 0) (why := 8) h hm.2.2.2.1 rfl (by decide) (by decide)
    rw [if_neg z, if_pos rfl, e2, bV_r, bV_r, if_neg z]
    exact ⟨σ1, rfl, h1⟩
theorem k_21 (hm : MC x W q0 (q, pc, nm, ops) r (21, arg, tgt, pl, ty, g)) (h : CG x ci W B (knw x.1 pc) nm ops r (Int32.ofNat (pos vC x.1 pc + 1)) fu σ) : ∃ σ', sm_callM X true (d + 10) 56 [vP (13, 0), vI 21, vI arg] σ = rV σ' ∧ CO x ci B (actM x W (q, pc, nm, ops) r fu (21, arg, tgt, pl, ty, g)) σ' := by
  obtain ⟨⟨S, n, t1, t2, t3, t4⟩, -, hW⟩ := MC_t hm
  obtain ⟨c0, r1, rfl, v0, -⟩ := ops1 hm t1
  have hr := roomG hm rfl (by simp) rfl
  obtain ⟨σ1, e1, h1⟩ := c_pop (X := X) (d := d + 7) h
  have e2 := c_roomR (X := X) (d := d + 7) (c := c0) hW h1.1
  rw [dA_21, f_X3_doNewRow, q_X3_doNewRow_0, e1, bI_r, e2, bI_r]
  show ∃ σ', _ = rV σ' ∧ CO x ci B (if roomR W c0 then (if c0 < 0 then raiseM x.1 W _ fu _ 3 3 else goM (wR W (w_r W ++ [((arg, List.replicate c0.toNatClampNeg 0) : zRw)])) _ r fu (rfR (w_r W).length :: r1)) else endM 8 _ W fu 0) σ'
  by_cases z : roomR W c0
  · rw [if_pos z, if_neg (by decide), if_pos z]
    by_cases y : c0 < 0
    · obtain ⟨σ3, e3, h3⟩ := c_raise1 (X := X) (d := d + 4) (why := 3) hm h1 rfl (by decide)
      have e3 : sm_callM X true (d + 8) 53 [vP (13, 0), vI 3] σ1 = rV σ3 := e3
      rw [if_pos y, e3, bV_r, bV_r, if_pos y]
      exact ⟨σ3, rfl, h3⟩
    · obtain ⟨m, hm', rfl⟩ : ∃ m, m < 41 ∧ c0 = Int32.ofNat m := i32_nat (n := 41) (by decide) y (by
        have h2 := z.2.1
        rw [Int32.lt_iff_toInt_lt] at h2 ⊢
        rw [show (40 : Int32).toInt = 40 from rfl] at h2
        rw [show (Int32.ofNat 41).toInt = 41 from rfl]
        omega)
      obtain ⟨σ2, e3, w2⟩ := c_makeR (X := X) (d := d + 5) (x := arg) hW h1.1 z (by omega)
      have e3 : sm_callM X true (d + 8) 160 [vP (20, 0), vI arg, vI (Int32.ofNat m)] σ1 = rI (rfR (w_r W).length) σ2 := e3
      have h2 := CG_y (by decide) e3 h1 w2
      obtain ⟨σ3, e4, h3⟩ := c_push (X := X) (d := d + 7) (c := rfR (w_r W).length) h2 hr
      rw [if_neg y, e3, bI_r, e4, bV_r, bV_r, if_neg y, i_tn (by omega)]
      exact ⟨σ3, rfl, CO_go hm rfl rfl (by simp) h3⟩
  · obtain ⟨σ2, e3, h2⟩ := c_endE (X := X) (d := d + 7) (v := 0) (why := 8) h1 hm.2.2.2.1 rfl (by decide) (by decide)
    rw [if_neg z, if_pos rfl, e3, bV_r, bV_r, if_neg z]
    exact ⟨σ2, rfl, h2⟩
theorem c_say (hW : WW W) (h : CG x ci W B K nm S r nx fu σ) : ∃ σ', sm_callM X true (d + 1) 67 [vP (13, 0), vI c] σ = rV σ' ∧ CG x ci (sayM W c) B K nm S r nx fu σ' := by
  have hd := hW.1.2.2.2.2.2
  obtain ⟨⟨a, b, t, e, ⟨o1, o2, o3, o4⟩, z⟩, hs⟩ := h
  rw [f_X3_say, q_X3_say_0, o3, show (300 : Int32) = Int32.ofNat 300 from rfl]
  unfold sayM
  by_cases q : (w_d W).length = 300
  · rw [if_neg (by rw [i_lt (by omega) (by omega)]; omega), if_pos q]
    exact ⟨σ, rfl, ⟨a, b, t, e, ⟨o1, o2, o3, o4⟩, z⟩, hs⟩
  · rw [if_pos (by rw [i_lt (by omega) (by omega)]; omega), ix_nat (by omega) (by omega), if_neg q]
    have e3 : (sI σ 46 0 (w_d W).length c).1 13 0 16 = Int32.ofNat (w_d W).length := o3
    rw [e3, i_s]
    refine ⟨_, rfl, ⟨a, b, t, e, ⟨o1, o2, ?_, fun i y hi => ?_⟩, z⟩, ?_⟩
    · rw [gI, if_pos ⟨rfl, rfl, rfl⟩]
      show _ = Int32.ofNat (w_d W ++ [c]).length
      rw [List.length_append]; rfl
    · have hi : (w_d W ++ [c])[i]? = some y := hi
      rw [gI, if_neg (by omega)]
      rcases Nat.lt_or_ge i (w_d W).length with w | w
      · rw [List.getElem?_append_left w] at hi
        rw [gI, if_neg (by omega)]; exact o4 i y hi
      · have hw : i = (w_d W).length := by
          rcases Nat.lt_or_ge (w_d W).length i with v | v
          · rw [List.getElem?_eq_none (by simp; omega)] at hi; cases hi
          · omega
        subst hw
        rw [List.getElem?_append_right (Nat.le_refl _), Nat.sub_self] at hi
        rw [gI, if_pos ⟨rfl, rfl, rfl⟩]
        exact Option.some.inj hi
    · obtain ⟨h1, h2, h3, h4, h5, h6, h7, h8, h9, h10⟩ := hs
      exact ⟨h1, h2, h3, h4, h5, h6, h7, CF1_s (σ := σ) (fun j hj => rfl) (fun j hj => ⟨rfl, rfl⟩) h8, CF_s (σ := σ) r (fun j hj => rfl) (fun j hj => ⟨rfl, rfl⟩) h9, h10⟩
theorem k_22 (hm : MC x W q0 (q, pc, nm, ops) r (22, arg, tgt, pl, ty, g)) (h : CG x ci W B (knw x.1 pc) nm ops r (Int32.ofNat (pos vC x.1 pc + 1)) fu σ) : ∃ σ', sm_callM X true (d + 10) 56 [vP (13, 0), vI 22, vI arg] σ = rV σ' ∧ CO x ci B (actM x W (q, pc, nm, ops) r fu (22, arg, tgt, pl, ty, g)) σ' := by
  obtain ⟨⟨S, t1⟩, -, hW⟩ := MC_t hm
  obtain ⟨c0, r1, rfl, v0, -⟩ := ops1 hm t1
  obtain ⟨σ1, e1, h1⟩ := c_pop (X := X) (d := d + 8) h
  obtain ⟨σ2, e2, h2⟩ := c_say (X := X) (d := d + 8) (c := c0) hW h1
  rw [dA_22, e1, bI_r, e2, bV_r]
  exact ⟨σ2, rfl, CO_go hm rfl rfl (by simp) h2⟩
theorem k_23 (hm : MC x W q0 (q, pc, nm, ops) r (23, arg, tgt, pl, ty, g)) (h : CG x ci W B (knw x.1 pc) nm ops r (Int32.ofNat (pos vC x.1 pc + 1)) fu σ) : ∃ σ', sm_callM X true (d + 10) 56 [vP (13, 0), vI 23, vI arg] σ = rV σ' ∧ CO x ci B (actM x W (q, pc, nm, ops) r fu (23, arg, tgt, pl, ty, g)) σ' := by
  obtain ⟨⟨t, S, t1, t2⟩, -, hW⟩ := MC_t hm
  obtain ⟨c0, r1, rfl, v0, -⟩ := ops1 hm t1
  obtain ⟨σ1, e1, h1⟩ := c_pop (X := X) (d := d + 7) h
  have a1 := hW.1.1
  have a2 := hW.1.2.1
  rw [dA_23, f_X3_sayReference, q_X3_sayReference_0, e1, bI_r]
  show ∃ σ', _ = rV σ' ∧ CO x ci B (goM (sayM W (if c0 < 0 then -1 - Int32.ofNat (rowAt W (ixR c0)).2.length else if c0 = 0 then -1000 else c0 - 1)) _ r fu r1) σ'
  by_cases z : c0 = 0
  · obtain ⟨σ2, e2, h2⟩ := c_say (X := X) (d := d + 7) (c := -1000) hW h1
    rw [c_rowOf0 (by rw [z]; decide), bP_r, if_pos rfl, if_pos z, e2, bV_r, bV_r, if_neg (by rw [z]; decide), if_pos z]
    exact ⟨σ2, rfl, CO_go hm rfl rfl (by simp) h2⟩
  · rcases VT_ref v0 t2 z with ⟨v, kk, n1, rfl, -⟩ | ⟨v, kk, n1, rfl, -⟩
    · have hn := rfV_pos (n := v) (by omega)
      obtain ⟨σ2, e2, h2⟩ := c_say (X := X) (d := d + 7) (c := rfV v - 1) hW h1
      rw [c_rowOf0 hn.1, bP_r, if_pos rfl, if_neg z, e2, bV_r, bV_r, if_neg hn.1, if_neg z]
      exact ⟨σ2, rfl, CO_go hm rfl rfl (by simp) h2⟩
    · obtain ⟨σ2, e2, h2⟩ := c_say (X := X) (d := d + 7) (c := -1 - Int32.ofNat (rowAt W v).2.length) hW h1
      rw [c_rowOf hW h1.1 n1, bP_r, if_neg n16, rq_t, (h1.1.2.1.2.2.2.2.1 _ n1).2.2.2.1, e2, bV_r, bV_r, if_pos (rfR_neg (by omega)), ixR_rf (by omega)]
      exact ⟨σ2, rfl, CO_go hm rfl rfl (by simp) h2⟩
theorem k_lv (h : CG x ci W B K nm S r nx fu σ) : ∃ σ', sm_callM X true (d + 2) 51 [vP (13, 0), vI c] σ = rV σ' ∧ CO x ci B (leaveM W r fu c) σ' := by
  cases r with
  | nil => exact c_leave0 h
  | cons g r =>
    obtain ⟨σ1, e1, h1⟩ := c_leave (X := X) (d := d) (v := c) h
    exact ⟨σ1, e1, Or.inl ⟨(g.1, g.2.1, g.2.2.1, c :: g.2.2.2), r, rfl, h1⟩⟩
theorem k_24 (hm : MC x W q0 (q, pc, nm, ops) r (24, arg, tgt, pl, ty, g)) (h : CG x ci W B (knw x.1 pc) nm ops r (Int32.ofNat (pos vC x.1 pc + 1)) fu σ) : ∃ σ', sm_callM X true (d + 10) 56 [vP (13, 0), vI 24, vI arg] σ = rV σ' ∧ CO x ci B (actM x W (q, pc, nm, ops) r fu (24, arg, tgt, pl, ty, g)) σ' := by
  obtain ⟨t, -, hW⟩ := MC_t hm
  rw [dA_24]
  show ∃ σ', _ = rV σ' ∧ CO x ci B (leaveM W r fu (if arg = 1 then opn (q, pc, nm, ops) 0 else 0)) σ'
  rcases t with ⟨t1, t2, t, S, t3, t4⟩ | ⟨t1, t2⟩
  · have t1 : arg = 1 := t1
    obtain ⟨c0, r1, rfl, v0, -⟩ := ops1 hm t3
    obtain ⟨σ1, e1, h1⟩ := c_pop (X := X) (d := d + 8) h
    obtain ⟨σ2, e2, h2⟩ := k_lv (X := X) (d := d + 7) (c := c0) h1
    have e2 : sm_callM X true (d + 9) 51 [vP (13, 0), vI c0] σ1 = rV σ2 := e2
    rw [if_pos t1, e1, bI_r, e2, bV_r, if_pos t1]
    exact ⟨σ2, rfl, h2⟩
  · have t1 : arg = 0 := t1
    have t0 : ¬ arg = 1 := by rw [t1]; decide
    obtain ⟨σ2, e2, h2⟩ := k_lv (X := X) (d := d + 7) (c := 0) h
    have e2 : sm_callM X true (d + 9) 51 [vP (13, 0), vI 0] σ = rV σ2 := e2
    rw [if_neg t0, e2, bV_r, if_neg t0]
    exact ⟨σ2, rfl, h2⟩
theorem k_25 (hm : MC x W q0 (q, pc, nm, ops) r (25, arg, tgt, pl, ty, g)) (h : CG x ci W B (knw x.1 pc) nm ops r (Int32.ofNat (pos vC x.1 pc + 1)) fu σ) : ∃ σ', sm_callM X true (d + 10) 56 [vP (13, 0), vI 25, vI arg] σ = rV σ' ∧ CO x ci B (actM x W (q, pc, nm, ops) r fu (25, arg, tgt, pl, ty, g)) σ' := by
  obtain ⟨⟨S, t1⟩, -, hW⟩ := MC_t hm
  obtain ⟨c0, r1, rfl, v0, -⟩ := ops1 hm t1
  obtain ⟨σ1, e1, h1⟩ := c_pop (X := X) (d := d + 8) h
  obtain ⟨σ2, e2, h2⟩ := c_raise (X := X) (d := d + 6) (why := 6) (v := c0) hm h1 rfl (by decide)
  have e2 : sm_callM X true (d + 9) 54 [vP (13, 0), vI 6, vI c0] σ1 = rV σ2 := e2
  rw [dA_25, e1, bI_r, e2, bV_r]
  exact ⟨σ2, rfl, h2⟩
theorem k_26 (hm : MC x W q0 (q, pc, nm, ops) r (26, arg, tgt, pl, ty, g)) (h : CG x ci W B (knw x.1 pc) nm ops r (Int32.ofNat (pos vC x.1 pc + 1)) fu σ) : ∃ σ', sm_callM X true (d + 10) 56 [vP (13, 0), vI 26, vI (Int32.ofNat (pos vC x.1 tgt))] σ = rV σ' ∧ CO x ci B (actM x W (q, pc, nm, ops) r fu (26, arg, tgt, pl, ty, g)) σ' := by
  obtain ⟨t1, -, hW⟩ := MC_t hm
  obtain ⟨c0, r1, rfl, v0, -⟩ := ops1 hm t1
  obtain ⟨σ1, e1, h1⟩ := c_pop (X := X) (d := d + 8) h
  rw [dA_26, e1, bI_r]
  show ∃ σ', _ = rV σ' ∧ CO x ci B (if c0 = 0 then .inl (W, (q, tgt, nm, r1) :: r, fu) else goM W _ r fu r1) σ'
  by_cases z : c0 = 0
  · rw [if_pos z, if_pos z]
    refine ⟨_, rfl, Or.inl ⟨(q, tgt, nm, r1), r, rfl, ?_⟩⟩
    obtain ⟨hx, -, hF, hi, -, -⟩ := hm
    obtain ⟨hL, -⟩ := (wt_ok hx hi).2.2.1
    have hL : Lands x.1 none tgt ([], g.2) := hL
    obtain ⟨e', l1, l2, l3⟩ := Lands_0 hL
    show CG x ci W B (knw x.1 tgt) nm r1 r (Int32.ofNat (pos vC x.1 tgt)) fu _
    rw [knw_e l1]
    have h1 := h1
    rw [knw_e hi] at h1
    exact CG_k (fun y hy => l3.2.1 y hy) (CG_nx h1)
  · rw [if_neg z, if_neg z, h1.2.2.2.2.2.1]
    exact ⟨_, rfl, CO_go hm rfl rfl (by simp) (CG_nx h1)⟩
end
