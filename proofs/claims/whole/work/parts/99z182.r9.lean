section
/-! THE REFERENCE's MACHINE: items 15 to 26 -/
variable {X : Nat × (Nat → Int32)} {d : Nat} {s σ σ' : sm_S} {W W' : zW} {n i k m j mi q pc q0 tgt : Nat} {c t u nx v arg ty pl c0 c1 c2 : Int32} {x : zTx} {K : List (Nat × Int32)} {nm : Nat → Int32} {S ops L : List Int32} {H : List Nat} {r : List zFr} {fu : Nat} {e : zI} {f : zFr} {g : zG}
/-- a fault 1 to 5 at an item -/
theorem j_flt (hm : MC x W q0 (q, pc, nm, ops) r e) (hv : vM e.1 = true) (h : MG x mi W (i_g e).2.1 nm L (i_h e) q r nx fu σ) (hw : v ≠ 0 ∧ v ≠ 6) : ∃ σ', sm_callM X true (d + 2) 256 [vP (23, 0), vI v, vI 0, vI (Int32.ofNat (pos vM x.1 pc))] σ = rV σ' ∧ MO x mi q0 (raiseM x.1 W ((q, pc, nm, ops) :: r) fu e v v) σ' := by
  obtain ⟨σ1, f1, f2⟩ := m_fault (X := X) (d := d) (why := v) (own := 0) (v := v) hm hv h hw.1 (by rw [if_neg hw.2])
  exact ⟨σ1, f1, f2⟩
theorem j_15 (hm : MC x W q0 (q, pc, nm, ops) r (15, arg, tgt, pl, ty, g)) (h : MG x mi W g.2.1 nm (mOps g.1 ops) g.2.2.2 q r (Int32.ofNat (pos vM x.1 pc + 1)) fu σ) : ∃ σ', sm_callM X true (d + 12) 261 [vP (23, 0), vI 3, vI arg, vI (Int32.ofNat (pos vM x.1 pc))] σ = rV σ' ∧ MO x mi q0 (actM x W (q, pc, nm, ops) r fu (15, arg, tgt, pl, ty, g)) σ' := by
  obtain ⟨⟨t, S, t1, t2, t3⟩, -, hW⟩ := MC_t hm
  obtain ⟨c0, c1, r2, rfl, -, v1, -⟩ := ops2 hm t1
  have t1 : g.1 = 36 :: t :: S := t1
  have t3 : ty = t - 18 := t3
  have ht := row_n t2
  have a2 := hW.1.2.1
  rw [t1, mOps_c (by decide), mOps_c ht.2.1, mV_i rfl] at h
  obtain ⟨σ1, e1, h1⟩ := m_pop (X := X) (d := d + 9) h
  obtain ⟨σ2, e2, h2⟩ := m_pop (X := X) (d := d + 9) h1
  rw [mA_3, f_X13_element0, q_X13_element0_0, e1, bI_r, e2, bI_r]
  show ∃ σ', _ = rV σ' ∧ MO x mi q0 (if c1 = 0 then raiseM x.1 W _ fu _ 1 1 else if hasPl W (ixR c1) c0 then goM W _ r fu ((rowAt W (ixR c1)).2.getD c0.toNatClampNeg 0 :: r2) else raiseM x.1 W _ fu _ 2 2) σ'
  obtain ⟨σ3, e3, h3⟩ := j_flt (X := X) (d := d + 8) (v := 1) hm rfl h2 (by decide)
  obtain ⟨σ4, e4, h4⟩ := j_flt (X := X) (d := d + 8) (v := 2) hm rfl h2 (by decide)
  have e3 : sm_callM X true (d + 10) 256 [vP (23, 0), vI 1, vI 0, vI (Int32.ofNat (pos vM x.1 pc))] σ2 = rV σ3 := e3
  have e4 : sm_callM X true (d + 10) 256 [vP (23, 0), vI 2, vI 0, vI (Int32.ofNat (pos vM x.1 pc))] σ2 = rV σ4 := e4
  by_cases z : c1 = 0
  · rw [if_pos ((mV_z hW v1).mpr z), e3, bV_r, bV_r, if_pos z]
    exact ⟨σ3, rfl, h3⟩
  · obtain ⟨n1, n2⟩ := mV_rw hW v1 t2 z
    obtain ⟨k, k1, k2, kl, hc⟩ := hW.2.2.1 _ n1
    obtain ⟨p1, p2, p3, p4⟩ := h2.1.2.1.2.2.1 _ n1
    rw [if_neg (fun y => z ((mV_z hW v1).mp y)), if_neg z]
    by_cases y : c0 < 0
    · rw [if_pos y, e4, bV_r, bV_r, if_neg (fun w => w.1 y)]
      exact ⟨σ4, rfl, h4⟩
    · rw [if_neg y, n2, show (1001 : Int32) = Int32.ofNat 1001 from rfl, i_sub, ix_nat (by omega) (by omega), p3]
      by_cases w : hasPl W (ixR c1) c0
      · obtain ⟨i, i1, i2, i3⟩ := hasPl_n w kl
        have hmem : (rowAt W (ixR c1)).2.getD i 0 ∈ (rowAt W (ixR c1)).2 := by
          rw [List.getD_eq_getElem?_getD, List.getElem?_eq_getElem i1]; exact List.getElem_mem i1
        obtain ⟨σ5, e5, h5⟩ := m_push (X := X) (d := d + 9) (c := (rowAt W (ixR c1)).2.getD i 0) h2 (m_rm hm (r3_80 hm))
        rw [if_pos ((hasPl_i kl y).mpr w.2), ix_nat (by omega) (by omega), p2, i2, cell_m hW h2.1 n1 i1, p4 i i1, e5, bV_r, bV_r]
        rw [i2] at w
        rw [if_pos w, i_tn (by omega)]
        refine ⟨σ5, rfl, ?_⟩
        rw [i2] at hm
        refine MO_go hm rfl rfl (by simp) ?_ h5
        show _ = mOps (ty :: g.1.drop 2) ((rowAt W (ixR c1)).2.getD i 0 :: r2)
        obtain ⟨b, b1, b2⟩ : ∃ b, b < 18 ∧ t = Int32.ofNat (18 + b) := by
          obtain ⟨n, n1', rfl⟩ := i32_nat (n := 36) (by decide) (fun z => t2.1 (by
            rw [Int32.lt_iff_toInt_lt] at z ⊢
            rw [show (0 : Int32).toInt = 0 from rfl] at z
            rw [show (18 : Int32).toInt = 18 from rfl]; omega)) t2.2
          have : ¬ n < 18 := fun z => t2.1 ((lt18 n1').mpr z)
          exact ⟨n - 18, by omega, by rw [show 18 + (n - 18) = n by omega]⟩
        have e18 : ty = Int32.ofNat b := by rw [t3, b2]; exact i_sub (p := 18)
        have hty : ty ≠ 38 := by rw [e18]; exact (cRef_n (cRef_k b (by omega))).2
        rw [t1, mOps_c hty, mV_cell hW (hc _ hmem)]; rfl
      · rw [if_neg (fun q => w ⟨y, (hasPl_i kl y).mp q⟩), e4, bV_r, bV_r, if_neg w]
        exact ⟨σ4, rfl, h4⟩
theorem j_16 (hm : MC x W q0 (q, pc, nm, ops) r (16, arg, tgt, pl, ty, g)) (h : MG x mi W g.2.1 nm (mOps g.1 ops) g.2.2.2 q r (Int32.ofNat (pos vM x.1 pc + 1)) fu σ) : ∃ σ', sm_callM X true (d + 12) 261 [vP (23, 0), vI 4, vI arg, vI (Int32.ofNat (pos vM x.1 pc))] σ = rV σ' ∧ MO x mi q0 (actM x W (q, pc, nm, ops) r fu (16, arg, tgt, pl, ty, g)) σ' := by
  obtain ⟨⟨u, t, S, t1, t2, t3⟩, s, hW⟩ := MC_t hm
  have t1 : g.1 = u :: 36 :: t :: S := t1
  have s : VTs W g.1 ops := s
  rw [t1] at s
  obtain ⟨c0, r1, rfl, v0, s1⟩ := VTs_tail s
  obtain ⟨c1, r2, rfl, v1, s2⟩ := VTs_tail s1
  obtain ⟨c2, r3, rfl, v2, s3⟩ := VTs_tail s2
  have ht := row_n t2
  have a2 := hW.1.2.1
  have w0 := VT_fit v0 t3
  obtain ⟨kt, kt1, kt2⟩ : ∃ b, b < 18 ∧ t = Int32.ofNat (18 + b) := by
    obtain ⟨n, n1, rfl⟩ := i32_nat (n := 36) (by decide) (fun z => t2.1 (by
      rw [Int32.lt_iff_toInt_lt] at z ⊢
      rw [show (0 : Int32).toInt = 0 from rfl] at z
      rw [show (18 : Int32).toInt = 18 from rfl]; omega)) t2.2
    refine ⟨n - 18, by omega, ?_⟩
    have : ¬ n < 18 := fun z => t2.1 ((lt18 n1).mpr z)
    rw [show 18 + (n - 18) = n by omega]
  have e18 : t - 18 = Int32.ofNat kt := by rw [kt2]; exact i_sub (p := 18)
  rw [e18] at w0
  have lt0 : Int32.ofNat kt < 18 := (lt18 (by omega)).mpr kt1
  have hu := mV_fit t3
  obtain ⟨kc, hc⟩ := VT_c w0 lt0
  have hm0 : mV u c0 = c0 := mV_cell hW hc
  rw [t1, mOps_c hu.1, mOps_c (by decide), mOps_c ht.2.1, mV_i rfl, hm0] at h
  obtain ⟨σ1, e1, h1⟩ := m_pop (X := X) (d := d + 9) h
  obtain ⟨σ2, e2, h2⟩ := m_pop (X := X) (d := d + 9) h1
  obtain ⟨σ3, e3, h3⟩ := m_pop (X := X) (d := d + 9) h2
  rw [mA_4, f_X13_puts, q_X13_puts_0, e1, bI_r, e2, bI_r, e3, bI_r]
  show ∃ σ', _ = rV σ' ∧ MO x mi q0 (if c2 = 0 then raiseM x.1 W _ fu _ 1 1 else if hasPl W (ixR c2) c1 then (if fitsR W (ixR c2) c0 then goM (setR W (ixR c2) c1.toNatClampNeg c0) _ r fu r3 else raiseM x.1 W _ fu _ 5 5) else raiseM x.1 W _ fu _ 2 2) σ'
  obtain ⟨τ1, f1, g1⟩ := j_flt (X := X) (d := d + 8) (v := 1) hm rfl h3 (by decide)
  obtain ⟨τ2, f2, g2⟩ := j_flt (X := X) (d := d + 8) (v := 2) hm rfl h3 (by decide)
  obtain ⟨τ5, f5, g5⟩ := j_flt (X := X) (d := d + 8) (v := 5) hm rfl h3 (by decide)
  have f1 : sm_callM X true (d + 10) 256 [vP (23, 0), vI 1, vI 0, vI (Int32.ofNat (pos vM x.1 pc))] σ3 = rV τ1 := f1
  have f2 : sm_callM X true (d + 10) 256 [vP (23, 0), vI 2, vI 0, vI (Int32.ofNat (pos vM x.1 pc))] σ3 = rV τ2 := f2
  have f5 : sm_callM X true (d + 10) 256 [vP (23, 0), vI 5, vI 0, vI (Int32.ofNat (pos vM x.1 pc))] σ3 = rV τ5 := f5
  by_cases z : c2 = 0
  · rw [if_pos ((mV_z hW v2).mpr z), f1, bV_r, bV_r, if_pos z]
    exact ⟨τ1, rfl, g1⟩
  · obtain ⟨n1, n2⟩ := mV_rw hW v2 t2 z
    obtain ⟨k, k1, k2, kl, hcs⟩ := hW.2.2.1 _ n1
    obtain ⟨p1, p2, p3, p4⟩ := h3.1.2.1.2.2.1 _ n1
    rw [if_neg (fun y => z ((mV_z hW v2).mp y)), if_neg z]
    by_cases y : c1 < 0
    · rw [if_pos y, f2, bV_r, bV_r, if_neg (fun w => w.1 y)]
      exact ⟨τ2, rfl, g2⟩
    · rw [if_neg y, n2, show (1001 : Int32) = Int32.ofNat 1001 from rfl, i_sub, ix_nat (by omega) (by omega), p3]
      by_cases w : hasPl W (ixR c2) c1
      · obtain ⟨i, i1, i2, i3⟩ := hasPl_n w kl
        have e93 : sm_go (sm_ZZ X) sm_PP true (sm_callM X true (d + 10)) 265 93 [vP (23, 0), vI (Int32.ofNat (pos vM x.1 pc)), vI c0, vI c1, vI (Int32.ofNat (1001 + ixR c2))] [] σ3 = rV (sI σ3 79 0 (frm W (ixR c2) + i) c0) := by
          rw [q_X13_puts_93, show (1001 : Int32) = Int32.ofNat 1001 from rfl, i_sub, ix_nat (by omega) (by omega), p2, i2, cell_m hW h3.1 n1 i1]
        have hset : MG x mi (setR W (ixR c2) i c0) g.2.1 nm (mOps S r3) g.2.2.2 q r (Int32.ofNat (pos vM x.1 pc + 1)) fu (sI σ3 79 0 (frm W (ixR c2) + i) c0) := ⟨MW_setR (c := c0) h3.1 n1 i1, MSt_i (σ := σ3) (fun t i k ht => by rw [gI, if_neg (by omega)]) rfl h3.2⟩
        have hfin : MO x mi q0 (goM (setR W (ixR c2) c1.toNatClampNeg c0) (q, pc, nm, c0 :: c1 :: c2 :: r3) r fu r3) (sI σ3 79 0 (frm W (ixR c2) + i) c0) := by
          rw [i3]
          refine MO_go hm rfl rfl (by simp) ?_ hset
          show _ = mOps (g.1.drop 3) r3
          rw [t1]; rfl
        rw [if_pos ((hasPl_i kl y).mpr w.2), if_pos w]
        by_cases c00 : c0 = 0
        · rw [if_pos c00, e93, bV_r, if_pos (show fitsR W (ixR c2) c0 from Or.inl c00)]
          exact ⟨_, rfl, hfin⟩
        · have ei := m_isOf (X := X) (d := d + 5) (u := (rowAt W (ixR c2)).1) hW h3.1 w0 (cRef_k kt (by omega)) ⟨k, by omega, k2⟩
          rw [mV_cell hW hc] at ei
          have ei : sm_callM X true (d + 10) 248 [vP (23, 0), vI c0, vI (rowAt W (ixR c2)).1] σ3 = _ := ei
          obtain ⟨m1, m2⟩ := VT_veh hW w0 lt0 c00
          have hff : cBel (tyOf W c0) (rowAt W (ixR c2)).1 = 1 ↔ fitsR W (ixR c2) c0 := by
            have a1 := hW.1.1
            obtain ⟨vv, kk, q1, q2, -⟩ := VT_v w0 lt0 c00
            constructor
            · intro y
              rw [q2, tyOf_v (by omega)] at y
              exact Or.inr (by rw [q2, ixV_rf (by omega)]; exact y)
            · intro y
              rcases y with y | y
              · exact absurd y c00
              · rw [q2, ixV_rf (by omega)] at y
                rw [q2, tyOf_v (by omega)]; exact y
          rw [if_neg c00, ix_nat (by omega) (by omega), p1, ei, bI_r]
          by_cases ff : fitsR W (ixR c2) c0
          · rw [if_pos (show c0 ≠ 0 ∧ cBel (tyOf W c0) (rowAt W (ixR c2)).1 = 1 from ⟨c00, hff.mpr ff⟩), if_neg (show ¬ (1 : Int32) = 0 by decide), e93, bV_r, if_pos ff]
            exact ⟨_, rfl, hfin⟩
          · rw [if_neg (show ¬ (c0 ≠ 0 ∧ cBel (tyOf W c0) (rowAt W (ixR c2)).1 = 1) from fun y => ff (hff.mp y.2)), if_pos (show (0 : Int32) = 0 from rfl), f5, bV_r, bV_r, if_neg ff]
            exact ⟨τ5, rfl, g5⟩
      · rw [if_neg (fun q => w ⟨y, (hasPl_i kl y).mp q⟩), f2, bV_r, bV_r, if_neg w]
        exact ⟨τ2, rfl, g2⟩
theorem fOwn_ty {f : Nat} (hf : f < 9) (h : cFit t (fOwn (Int32.ofNat f)) = 1) : t ≠ 38 := (mV_fit h).1
/-- vehicle's number, as the reference uses it -/
theorem mV_vn (hW : WW W) (hv : VT W t c) (ht : t < 18) (hc : c ≠ 0) (hu : cFit u t = 1) : ixV c < (w_v W).length ∧ mV u c = rfV (ixV c) := by
  obtain ⟨h1, h2⟩ := mV_vh hW hv ht hc
  exact ⟨h1, by rw [(mV_fit hu).2.2]; exact h2⟩
theorem j_17 (hm : MC x W q0 (q, pc, nm, ops) r (17, arg, tgt, pl, ty, g)) (h : MG x mi W g.2.1 nm (mOps g.1 ops) g.2.2.2 q r (Int32.ofNat (pos vM x.1 pc + 1)) fu σ) : ∃ σ', sm_callM X true (d + 12) 261 [vP (23, 0), vI 5, vI arg, vI (Int32.ofNat (pos vM x.1 pc))] σ = rV σ' ∧ MO x mi q0 (actM x W (q, pc, nm, ops) r fu (17, arg, tgt, pl, ty, g)) σ' := by
  obtain ⟨⟨t, S, t1, ⟨f, t2, t3⟩, t4, t5⟩, -, hW⟩ := MC_t hm
  have t3 : arg = Int32.ofNat f := t3
  have t4 : cFit t (fOwn arg) = 1 := t4
  have t5 : ty = if arg = 1 then 0 else 36 := t5
  obtain ⟨c0, r1, rfl, v0, -⟩ := ops1 hm t1
  have t1 : g.1 = t :: S := t1
  have w0 := VT_fit v0 t4
  rw [t3] at w0 t4
  have l0 := fOwn_lt f t2
  rw [t1, mOps_c (mV_fit t4).1] at h
  obtain ⟨σ1, e1, h1⟩ := m_pop (X := X) (d := d + 10) h
  rw [mA_5, e1, bI_r]
  show ∃ σ', _ = rV σ' ∧ MO x mi q0 (if c0 = 0 then raiseM x.1 W _ fu _ 1 1 else goM W _ r fu (vFld (vehAt W (ixV c0)) arg.toNatClampNeg :: r1)) σ'
  by_cases z : c0 = 0
  · obtain ⟨σ3, e3, h3⟩ := j_flt (X := X) (d := d + 9) (v := 1) hm rfl h1 (by decide)
    have e3 : sm_callM X true (d + 11) 256 [vP (23, 0), vI 1, vI 0, vI (Int32.ofNat (pos vM x.1 pc))] σ1 = rV σ3 := e3
    rw [if_pos ((mV_z hW v0).mpr z), e3, bV_r, if_pos z]
    exact ⟨σ3, rfl, h3⟩
  · obtain ⟨n1, n2⟩ := mV_vn hW w0 l0 z t4
    have e3 := mw_field (X := X) (d := d + 9) hW h1.1 n1 t2
    have e3 : sm_callM X true (d + 11) 252 [vP (23, 0), vI (Int32.ofNat (ixV c0)), vI (Int32.ofNat f)] σ1 = rI (vFld (vehAt W (ixV c0)) f) σ1 := e3
    obtain ⟨σ2, e4, h2⟩ := m_push (X := X) (d := d + 10) (c := vFld (vehAt W (ixV c0)) f) h1 (m_rm hm (r2_80 hm))
    rw [if_neg (fun y => z ((mV_z hW v0).mp y)), n2, m_asV, bI_r, rfV_1, if_neg z]
    subst t3
    rw [e3, bI_r, e4, bV_r, i_tn (by omega)]
    refine ⟨σ2, rfl, MO_go hm rfl rfl (by simp) ?_ h2⟩
    show _ = mOps (ty :: g.1.drop 1) (vFld (vehAt W (ixV c0)) f :: r1)
    rw [t1]
    by_cases f1 : f = 1
    · subst f1
      have ht0 : ty = 0 := t5
      have hb := (hW.2.1 _ n1).2
      have hcell : mV 0 (vFld (vehAt W (ixV c0)) 1) = vFld (vehAt W (ixV c0)) 1 := by
        show mV 0 ((vehAt W (ixV c0)).2 1) = (vehAt W (ixV c0)).2 1
        obtain ⟨kk, hk⟩ := VT_c hb (by decide)
        exact mV_cell hW hk
      rw [ht0, mOps_c (by decide), hcell]; rfl
    · have ht36 : ty = 36 := by
        rw [t5, if_neg (by rw [show (1 : Int32) = Int32.ofNat 1 from rfl, i_eq (by omega) (by omega)]; exact f1)]
      rw [ht36, mOps_c (by decide), mV_i rfl]; rfl
theorem j_18 (hm : MC x W q0 (q, pc, nm, ops) r (18, arg, tgt, pl, ty, g)) (h : MG x mi W g.2.1 nm (mOps g.1 ops) g.2.2.2 q r (Int32.ofNat (pos vM x.1 pc + 1)) fu σ) : ∃ σ', sm_callM X true (d + 12) 261 [vP (23, 0), vI 6, vI arg, vI (Int32.ofNat (pos vM x.1 pc))] σ = rV σ' ∧ MO x mi q0 (actM x W (q, pc, nm, ops) r fu (18, arg, tgt, pl, ty, g)) σ' := by
  obtain ⟨⟨u, t, S, t1, ⟨f, t2, t3⟩, t6, t4, t5⟩, -, hW⟩ := MC_t hm
  have t3 : arg = Int32.ofNat f := t3
  have t4 : cFit t (fOwn arg) = 1 := t4
  have t5 : cFit u (if arg = 1 then 0 else 36) = 1 := t5
  have t6 : ¬ (arg = 2 ∨ arg = 3 ∨ arg = 4) := t6
  obtain ⟨c0, c1, r2, rfl, v0, v1, -⟩ := ops2 hm t1
  have t1 : g.1 = u :: t :: S := t1
  have w1 := VT_fit v1 t4
  have w0 := VT_fit v0 t5
  have a1 := hW.1.1
  have hm0 : mV u c0 = c0 := by
    rw [(mV_fit t5).2.2]
    by_cases z : arg = 1
    · rw [if_pos z] at w0 ⊢
      obtain ⟨kk, hk⟩ := VT_c w0 (by decide)
      exact mV_cell hW hk
    · rw [if_neg z]; exact mV_i rfl
  rw [t3] at w1 t4
  have l1 := fOwn_lt f t2
  have hf : isF f := by
    have hk : f = 0 ∨ f = 1 ∨ f = 2 ∨ f = 3 ∨ f = 4 ∨ f = 5 ∨ f = 6 ∨ f = 7 ∨ f = 8 := by omega
    rcases hk with rfl | rfl | rfl | rfl | rfl | rfl | rfl | rfl | rfl
    · decide
    · decide
    · exact absurd (Or.inl t3) t6
    · exact absurd (Or.inr (Or.inl t3)) t6
    · exact absurd (Or.inr (Or.inr t3)) t6
    · decide
    · decide
    · decide
    · decide
  rw [t1, mOps_c (mV_fit t5).1, mOps_c (mV_fit t4).1, hm0] at h
  obtain ⟨σ1, e1, h1⟩ := m_pop (X := X) (d := d + 10) h
  obtain ⟨σ2, e2, h2⟩ := m_pop (X := X) (d := d + 10) h1
  rw [mA_6, e1, bI_r, e2, bI_r]
  show ∃ σ', _ = rV σ' ∧ MO x mi q0 (if c1 = 0 then raiseM x.1 W _ fu _ 1 1 else goM (setV W (ixV c1) arg.toNatClampNeg c0) _ r fu r2) σ'
  by_cases z : c1 = 0
  · obtain ⟨σ3, e3, h3⟩ := j_flt (X := X) (d := d + 9) (v := 1) hm rfl h2 (by decide)
    have e3 : sm_callM X true (d + 11) 256 [vP (23, 0), vI 1, vI 0, vI (Int32.ofNat (pos vM x.1 pc))] σ2 = rV σ3 := e3
    rw [if_pos ((mV_z hW v1).mpr z), e3, bV_r, if_pos z]
    exact ⟨σ3, rfl, h3⟩
  · obtain ⟨n1, n2⟩ := mV_vn hW w1 l1 z t4
    have hset : MG x mi (setV W (ixV c1) f c0) g.2.1 nm (mOps S r2) g.2.2.2 q r (Int32.ofNat (pos vM x.1 pc + 1)) fu (sI σ2 75 0 (9 * ixV c1 + f) c0) := ⟨MW_setV (x := c0) h2.1 n1 hf, MSt_i (σ := σ2) (fun t i k ht => by rw [gI, if_neg (by omega)]) rfl h2.2⟩
    rw [if_neg (fun y => z ((mV_z hW v1).mp y)), n2, m_asV, bI_r, rfV_1, if_neg z]
    subst t3
    rw [i9, ix_nat (by omega) (by omega), i_tn (by omega)]
    refine ⟨_, rfl, MO_go hm rfl rfl (by simp) ?_ hset⟩
    show _ = mOps (g.1.drop 2) r2
    rw [t1]; rfl
theorem j_19 (hm : MC x W q0 (q, pc, nm, ops) r (19, arg, tgt, pl, ty, g)) (h : MG x mi W g.2.1 nm (mOps g.1 ops) g.2.2.2 q r (Int32.ofNat (pos vM x.1 pc + 1)) fu σ) : ∃ σ', sm_callM X true (d + 12) 261 [vP (23, 0), vI 7, vI arg, vI (Int32.ofNat (pos vM x.1 pc))] σ = rV σ' ∧ MO x mi q0 (actM x W (q, pc, nm, ops) r fu (19, arg, tgt, pl, ty, g)) σ' := by
  obtain ⟨⟨t, S, t1, t2, t3⟩, -, hW⟩ := MC_t hm
  obtain ⟨c0, r1, rfl, v0, -⟩ := ops1 hm t1
  have t1 : g.1 = t :: S := t1
  have t3 : ty = 36 := t3
  have ht := row_n t2
  have a2 := hW.1.2.1
  rw [t1, mOps_c ht.2.1] at h
  obtain ⟨σ1, e1, h1⟩ := m_pop (X := X) (d := d + 10) h
  rw [mA_7, e1, bI_r]
  show ∃ σ', _ = rV σ' ∧ MO x mi q0 (if c0 = 0 then raiseM x.1 W _ fu _ 1 1 else goM W _ r fu (Int32.ofNat (rowAt W (ixR c0)).2.length :: r1)) σ'
  by_cases z : c0 = 0
  · obtain ⟨σ3, e3, h3⟩ := j_flt (X := X) (d := d + 9) (v := 1) hm rfl h1 (by decide)
    have e3 : sm_callM X true (d + 11) 256 [vP (23, 0), vI 1, vI 0, vI (Int32.ofNat (pos vM x.1 pc))] σ1 = rV σ3 := e3
    rw [if_pos ((mV_z hW v0).mpr z), e3, bV_r, if_pos z]
    exact ⟨σ3, rfl, h3⟩
  · obtain ⟨n1, n2⟩ := mV_rw hW v0 t2 z
    obtain ⟨p1, p2, p3, p4⟩ := h1.1.2.1.2.2.1 _ n1
    obtain ⟨σ2, e4, h2⟩ := m_push (X := X) (d := d + 10) (c := Int32.ofNat (rowAt W (ixR c0)).2.length) h1 (m_rm hm (r2_80 hm))
    rw [if_neg (fun y => z ((mV_z hW v0).mp y)), n2, show (1001 : Int32) = Int32.ofNat 1001 from rfl, i_sub, ix_nat (by omega) (by omega), p3, e4, bV_r, if_neg z]
    refine ⟨σ2, rfl, MO_go hm rfl rfl (by simp) ?_ h2⟩
    show _ = mOps (ty :: g.1.drop 1) (_ :: r1)
    rw [t1, t3, mOps_c (by decide), mV_i rfl]; rfl
theorem j_20 (hm : MC x W q0 (q, pc, nm, ops) r (20, arg, tgt, pl, ty, g)) (h : MG x mi W g.2.1 nm (mOps g.1 ops) g.2.2.2 q r (Int32.ofNat (pos vM x.1 pc + 1)) fu σ) : ∃ σ', sm_callM X true (d + 12) 261 [vP (23, 0), vI 16, vI arg, vI (Int32.ofNat (pos vM x.1 pc))] σ = rV σ' ∧ MO x mi q0 (actM x W (q, pc, nm, ops) r fu (20, arg, tgt, pl, ty, g)) σ' := by
  obtain ⟨⟨n, t1, t2, t3⟩, -, hW⟩ := MC_t hm
  have t2 : arg = Int32.ofNat n := t2
  have t3 : ty = arg := t3
  have a1 := hW.1.1
  rw [mA_16, f_X13_make, q_X13_make_0, h.1.1.1, show (300 : Int32) = Int32.ofNat 300 from rfl]
  show ∃ σ', _ = rV σ' ∧ MO x mi q0 (if (w_v W).length < 300 then goM (wV W (w_v W ++ [((arg, fun _ => (0 : Int32)) : zVh)])) _ r fu (rfV (w_v W).length :: ops) else endM 8 _ W fu 0) σ'
  by_cases z : (w_v W).length < 300
  · have hset : MG x mi (wV W (w_v W ++ [((arg, fun _ => (0 : Int32)) : zVh)])) g.2.1 nm (mOps g.1 ops) g.2.2.2 q r (Int32.ofNat (pos vM x.1 pc + 1)) fu (sI (sI σ 74 0 (w_v W).length arg) 23 0 24 (Int32.ofNat ((w_v W).length + 1))) := ⟨MW_newV (x := arg) h.1, MSt_i (σ := σ) (fun t i k ht => by rw [gI, if_neg (by omega), gI, if_neg (by omega)]) rfl h.2⟩
    have e24 : (sI σ 74 0 (w_v W).length arg).1 23 0 24 = Int32.ofNat (w_v W).length := h.1.1.1
    obtain ⟨σ2, e4, h2⟩ := m_push (X := X) (d := d + 9) (c := Int32.ofNat ((w_v W).length + 1)) hset (m_rm hm (mOps_80 hm))
    rw [if_neg (by rw [i_eq (by omega) (by omega)]; omega), ix_nat (by omega) (by omega), e24, i_s, gI, if_pos ⟨rfl, rfl, rfl⟩, e4, bV_r, bV_r, if_pos z]
    refine ⟨σ2, rfl, MO_go hm rfl rfl (by simp) ?_ h2⟩
    show _ = mOps (ty :: g.1) (rfV (w_v W).length :: ops)
    have hty : ty ≠ 38 := by rw [t3, t2]; exact (cRef_n (cRef_k n (by omega))).2
    rw [mOps_c hty, mV_veh (by omega)]
  · obtain ⟨σ1, e2, h1⟩ := m_endE (X := X) (d := d + 9) (v := 0) (why := 8) (q0 := q0) h hm.1.2.2.2.1 hm.2.2.2.1 rfl (by decide) (by decide)
    have e2 : sm_callM X true (d + 10) 255 [vP (23, 0), vI 8, vI (Int32.ofNat (pos vM x.1 pc))] σ = rV σ1 := e2
    rw [if_pos (by rw [i_eq (by omega) (by omega)]; omega), e2, bV_r, bV_r, if_neg z]
    exact ⟨σ1, rfl, h1⟩
end
