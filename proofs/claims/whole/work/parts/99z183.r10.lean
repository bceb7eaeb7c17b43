section
/-! THE REFERENCE's MACHINE: items 21 to 26 -/
variable {X : Nat × (Nat → Int32)} {d : Nat} {s σ σ' : sm_S} {W W' : zW} {n i k m j mi q pc q0 tgt : Nat} {c t u nx v arg ty pl c0 c1 c2 : Int32} {x : zTx} {K : List (Nat × Int32)} {nm : Nat → Int32} {S ops L : List Int32} {H : List Nat} {r : List zFr} {fu : Nat} {e : zI} {f : zFr} {g : zG}
theorem m_pushS (h : MSt x mi K nm L H q r nx fu σ) (hl : hM x.1 r + L.length < 1300) : sm_callM X true (d + 1) 253 [vP (23, 0), vI c] σ = rV (sI (sI σ 81 0 (hM x.1 r + L.length) c) 23 0 37 (Int32.ofNat (hM x.1 r + L.length + 1))) ∧ MSt x mi K nm (c :: L) H q r nx fu (sI (sI σ 81 0 (hM x.1 r + L.length) c) 23 0 37 (Int32.ofNat (hM x.1 r + L.length + 1))) := by
  obtain ⟨h1, h2, h3, h4, h5, h6, h7, ⟨a1, a2, a3, a4, a5, a6⟩, h12, h13, h14, h15⟩ := h
  have e1 : (sI σ 81 0 (hM x.1 r + L.length) c).1 23 0 37 = Int32.ofNat (hM x.1 r + L.length) := h3
  refine ⟨?_, h1, h2, ?_, h4, h5, h6, h7, ⟨a1, a2, a3, a4, fun i e hi => ?_, a6⟩, MF_s (σ := σ) r (fun j hj => ?_) (fun j _ => rfl) (fun j _ => ⟨rfl, rfl, rfl⟩) h12, TrM_s (σ := σ) rfl (fun t j h1 h2 _ => by rw [gI, if_neg (by omega), gI, if_neg (by omega)]) h13, ?_, h15⟩
  · rw [f_X13_push, q_X13_push_0, h3, ix_nat (by omega) (by omega), e1, i_s]
  · rw [gI, if_pos ⟨rfl, rfl, rfl⟩]; rfl
  · rw [gI, if_neg (by omega), gI]
    cases i with
    | zero =>
      rw [if_pos ⟨rfl, rfl, by rw [List.length_cons]; omega⟩]
      exact Option.some.inj hi
    | succ i =>
      have hi : L[i]? = some e := hi
      have := (List.getElem?_eq_some_iff.mp hi).1
      rw [List.length_cons, if_neg (by omega), show L.length + 1 - 1 - (i + 1) = L.length - 1 - i by omega]
      exact a5 i e hi
  · rw [gI, if_neg (by omega), gI, if_neg (by omega)]
  · rw [List.length_cons]; omega
theorem sub_lt {a : Nat} (ha : a ≤ 2000) : ((2000 : Int32) - Int32.ofNat a < c) ↔ 2000 < (a : Int) + c.toInt := by
  have e : (2000 : Int32) - Int32.ofNat a = Int32.ofNat (2000 - a) := by
    have := i_sub (p := a) (m := 2000 - a)
    rw [show a + (2000 - a) = 2000 by omega] at this
    exact this
  rw [e, Int32.lt_iff_toInt_lt, Int32.toInt_ofNat_of_lt (by omega)]
  omega
theorem j_21 (hm : MC x W q0 (q, pc, nm, ops) r (21, arg, tgt, pl, ty, g)) (h : MG x mi W g.2.1 nm (mOps g.1 ops) g.2.2.2 q r (Int32.ofNat (pos vM x.1 pc + 1)) fu σ) : ∃ σ', sm_callM X true (d + 12) 261 [vP (23, 0), vI 17, vI arg, vI (Int32.ofNat (pos vM x.1 pc))] σ = rV σ' ∧ MO x mi q0 (actM x W (q, pc, nm, ops) r fu (21, arg, tgt, pl, ty, g)) σ' := by
  obtain ⟨⟨S, n, t1, t2, t3, t4⟩, -, hW⟩ := MC_t hm
  obtain ⟨c0, r1, rfl, v0, -⟩ := ops1 hm t1
  have t1 : g.1 = 36 :: S := t1
  have t3 : arg = Int32.ofNat n := t3
  have t4 : ty = 18 + arg := t4
  have a2 := hW.1.2.1
  have a3 := hW.1.2.2.1
  rw [t1, mOps_c (by decide), mV_i rfl] at h
  obtain ⟨σ1, e1, h1⟩ := m_pop (X := X) (d := d + 10) h
  obtain ⟨σ4, e4, h4⟩ := m_endE (X := X) (d := d + 9) (v := 0) (why := 8) (q0 := q0) h1 hm.1.2.2.2.1 hm.2.2.2.1 rfl (by decide) (by decide)
  have e4 : sm_callM X true (d + 10) 255 [vP (23, 0), vI 8, vI (Int32.ofNat (pos vM x.1 pc))] σ1 = rV σ4 := e4
  have e1 : sm_callM X true (d + 10) 254 [vP (23, 0)] σ = rI c0 σ1 := by
    have := e1
    obtain ⟨σ1', e1', -⟩ := m_pop (X := X) (d := d + 9) h
    have hq : sm_callM X true (d + 11) 254 [vP (23, 0)] σ = rI c0 σ1 := e1
    rw [f_X13_pop, q_X13_pop_0] at hq ⊢
    exact hq
  rw [mA_17, f_X13_makeRow, q_X13_makeRow_0, e1, bI_r, h1.1.2.1.1, h1.1.2.1.2.1, show (200 : Int32) = Int32.ofNat 200 from rfl]
  show ∃ σ', _ = rV σ' ∧ MO x mi q0 (if roomR W c0 then (if c0 < 0 then raiseM x.1 W _ fu _ 3 3 else goM (wR W (w_r W ++ [(arg, List.replicate c0.toNatClampNeg 0)])) _ r fu (rfR (w_r W).length :: r1)) else endM 8 _ W fu 0) σ'
  by_cases y1 : (w_r W).length = 200
  · rw [if_pos (by rw [i_eq (by omega) (by omega)]; exact y1), e4, bV_r, bV_r, if_neg (fun z : roomR W c0 => by have := z.1; omega)]
    exact ⟨σ4, rfl, h4⟩
  · rw [if_neg (by rw [i_eq (by omega) (by omega)]; exact y1)]
    by_cases y2 : 40 < c0
    · rw [if_pos y2, e4, bV_r, bV_r, if_neg (fun z : roomR W c0 => z.2.1 y2)]
      exact ⟨σ4, rfl, h4⟩
    · rw [if_neg y2]
      by_cases y3 : (2000 : Int32) - Int32.ofNat (nSpots W) < c0
      · rw [if_pos y3, e4, bV_r, bV_r, if_neg (fun z : roomR W c0 => z.2.2 ((sub_lt a3).mp y3))]
        exact ⟨σ4, rfl, h4⟩
      · have hroom : roomR W c0 := ⟨by omega, y2, fun z => y3 ((sub_lt a3).mpr z)⟩
        rw [if_neg y3, if_pos hroom]
        by_cases y : c0 < 0
        · obtain ⟨σ3, e3, h3⟩ := j_flt (X := X) (d := d + 8) (v := 3) hm rfl h1 (by decide)
          have e3 : sm_callM X true (d + 10) 256 [vP (23, 0), vI 3, vI 0, vI (Int32.ofNat (pos vM x.1 pc))] σ1 = rV σ3 := e3
          rw [if_pos y, e3, bV_r, bV_r, if_pos y]
          exact ⟨σ3, rfl, h3⟩
        · obtain ⟨m, hm', rfl⟩ : ∃ m, m < 41 ∧ c0 = Int32.ofNat m := i32_nat (n := 41) (by decide) y (by
            rw [Int32.lt_iff_toInt_lt] at y2 ⊢
            rw [show (40 : Int32).toInt = 40 from rfl] at y2
            rw [show (Int32.ofNat 41).toInt = 41 from rfl]
            omega)
          have hr2 := hroom.2.2
          rw [Int32.toInt_ofNat_of_lt (by omega)] at hr2
          have b1 := h1.1.2.1.1
          have b2 := h1.1.2.1.2.1
          rw [if_neg y, if_neg y, ix_nat (by omega) (by omega)]
          have u1 : (sI σ1 76 0 (w_r W).length arg).1 23 0 25 = Int32.ofNat (w_r W).length := b1
          have u2 : (sI σ1 76 0 (w_r W).length arg).1 23 0 26 = Int32.ofNat (nSpots W) := b2
          rw [u1, ix_nat (by omega) (by omega), u2]
          have u3 : (sI (sI σ1 76 0 (w_r W).length arg) 77 0 (w_r W).length (Int32.ofNat (nSpots W))).1 23 0 25 = Int32.ofNat (w_r W).length := b1
          rw [u3, ix_nat (by omega) (by omega)]
          have u4 : (sI (sI (sI σ1 76 0 (w_r W).length arg) 77 0 (w_r W).length (Int32.ofNat (nSpots W))) 78 0 (w_r W).length (Int32.ofNat m)).1 23 0 26 = Int32.ofNat (nSpots W) := b2
          rw [u4, i_add]
          have u5 : (sI (sI (sI (sI σ1 76 0 (w_r W).length arg) 77 0 (w_r W).length (Int32.ofNat (nSpots W))) 78 0 (w_r W).length (Int32.ofNat m)) 23 0 26 (Int32.ofNat (nSpots W + m))).1 23 0 25 = Int32.ofNat (w_r W).length := b1
          have hw := MW_newR (x := arg) (m := m) h1.1
          have hs : MSt x mi g.2.1 nm (mOps S r1) g.2.2.2 q r (Int32.ofNat (pos vM x.1 pc + 1)) fu (sI (sI (sI (sI σ1 76 0 (w_r W).length arg) 77 0 (w_r W).length (Int32.ofNat (nSpots W))) 78 0 (w_r W).length (Int32.ofNat m)) 23 0 26 (Int32.ofNat (nSpots W + m))) := MSt_i (σ := σ1) (fun t i k ht => by rw [gI, if_neg (by omega), gI, if_neg (by omega), gI, if_neg (by omega), gI, if_neg (by omega)]) rfl h1.2
          rw [u5, show (1001 : Int32) = Int32.ofNat 1001 from rfl, i_add]
          generalize hτ : sI (sI (sI (sI σ1 76 0 (w_r W).length arg) 77 0 (w_r W).length (Int32.ofNat (nSpots W))) 78 0 (w_r W).length (Int32.ofNat m)) 23 0 26 (Int32.ofNat (nSpots W + m)) = τ at u5 hw hs ⊢
          obtain ⟨e5, h5⟩ := m_pushS (X := X) (d := d + 9) (c := Int32.ofNat (1001 + (w_r W).length)) hs (m_rm hm (r2_80 hm))
          have e5' : (sI (sI τ 81 0 (hM x.1 r + (mOps S r1).length) (Int32.ofNat (1001 + (w_r W).length))) 23 0 37 (Int32.ofNat (hM x.1 r + (mOps S r1).length + 1))).1 23 0 25 = Int32.ofNat (w_r W).length := u5
          rw [e5, bV_r, e5', i_s, i_tn (by omega)]
          have hG : MG x mi (wR W (w_r W ++ [(arg, List.replicate m 0)])) g.2.1 nm (Int32.ofNat (1001 + (w_r W).length) :: mOps S r1) g.2.2.2 q r (Int32.ofNat (pos vM x.1 pc + 1)) fu (sI (sI (sI τ 81 0 (hM x.1 r + (mOps S r1).length) (Int32.ofNat (1001 + (w_r W).length))) 23 0 37 (Int32.ofNat (hM x.1 r + (mOps S r1).length + 1))) 23 0 25 (Int32.ofNat ((w_r W).length + 1))) := by
            refine ⟨MW_i (fun t i k ht => ?_) hw, MSt_i (σ := sI (sI τ 81 0 (hM x.1 r + (mOps S r1).length) (Int32.ofNat (1001 + (w_r W).length))) 23 0 37 (Int32.ofNat (hM x.1 r + (mOps S r1).length + 1))) (fun t i k ht => by rw [gI, if_neg (by omega)]) rfl h5⟩
            by_cases q : t = 23 ∧ i = 0 ∧ k = 25
            · rw [gI, if_pos q, gI, if_pos q]
            · rw [gI, if_neg q, gI, if_neg (by omega), gI, if_neg (by omega), gI, if_neg q]
          refine ⟨_, rfl, MO_go hm rfl rfl (by simp) ?_ hG⟩
          show _ = mOps (ty :: g.1.drop 1) (rfR (w_r W).length :: r1)
          have hty : ty = Int32.ofNat (18 + n) := by rw [t4, t3, o18]
          have hcr := cRef_k (18 + n) (by omega)
          rw [← hty] at hcr
          rw [t1, mOps_c (cRef_n hcr).2, mV_r1 hcr (by omega)]; rfl
theorem m_says (hW : WW W) (h : MG x mi W K nm L H q r nx fu σ) : ∃ σ', sm_callM X true (d + 1) 263 [vP (23, 0), vI c] σ = rV σ' ∧ MG x mi (sayM W c) K nm L H q r nx fu σ' := by
  have hd := hW.1.2.2.2.2.2
  obtain ⟨⟨a, b, t, e, ⟨o1, o2, o3, o4⟩⟩, hs⟩ := h
  rw [f_X13_says, q_X13_says_0, o3, show (300 : Int32) = Int32.ofNat 300 from rfl]
  unfold sayM
  by_cases q : (w_d W).length = 300
  · rw [if_pos (by rw [i_eq (by omega) (by omega)]; exact q), if_pos q]
    exact ⟨σ, rfl, ⟨a, b, t, e, ⟨o1, o2, o3, o4⟩⟩, hs⟩
  · rw [if_neg (by rw [i_eq (by omega) (by omega)]; exact q), ix_nat (by omega) (by omega), if_neg q]
    have e3 : (sI σ 80 0 (w_d W).length c).1 23 0 28 = Int32.ofNat (w_d W).length := o3
    rw [e3, i_s]
    refine ⟨_, rfl, ⟨a, b, t, e, ⟨o1, o2, ?_, fun i y hi => ?_⟩⟩, MSt_i (σ := σ) (fun t i k ht => by rw [gI, if_neg (by omega), gI, if_neg (by omega)]) rfl hs⟩
    · rw [gI, if_pos ⟨rfl, rfl, rfl⟩]
      show _ = Int32.ofNat (w_d W ++ [c]).length
      rw [List.length_append]; rfl
    · have hi : (w_d W ++ [c])[i]? = some y := hi
      rw [gI, if_neg (by omega)]
      rcases Nat.lt_or_ge i (w_d W).length with w | w
      · rw [List.getElem?_append_left w] at hi
        rw [gI, if_neg (by omega)]; exact o4 i y hi
      · have hw : i = (w_d W).length := by
          rcases Nat.lt_or_ge (w_d W).length i with v | v
          · rw [List.getElem?_eq_none (by simp; omega)] at hi; cases hi
          · omega
        subst hw
        rw [List.getElem?_append_right (Nat.le_refl _), Nat.sub_self] at hi
        rw [gI, if_pos ⟨rfl, rfl, rfl⟩]
        exact Option.some.inj hi
theorem j_22 (hm : MC x W q0 (q, pc, nm, ops) r (22, arg, tgt, pl, ty, g)) (h : MG x mi W g.2.1 nm (mOps g.1 ops) g.2.2.2 q r (Int32.ofNat (pos vM x.1 pc + 1)) fu σ) : ∃ σ', sm_callM X true (d + 12) 261 [vP (23, 0), vI 20, vI arg, vI (Int32.ofNat (pos vM x.1 pc))] σ = rV σ' ∧ MO x mi q0 (actM x W (q, pc, nm, ops) r fu (22, arg, tgt, pl, ty, g)) σ' := by
  obtain ⟨⟨S, t1⟩, -, hW⟩ := MC_t hm
  obtain ⟨c0, r1, rfl, v0, -⟩ := ops1 hm t1
  have t1 : g.1 = 36 :: S := t1
  rw [t1, mOps_c (by decide), mV_i rfl] at h
  obtain ⟨σ1, e1, h1⟩ := m_pop (X := X) (d := d + 10) h
  obtain ⟨σ2, e2, h2⟩ := m_says (X := X) (d := d + 10) (c := c0) hW h1
  rw [mA_20, e1, bI_r, e2, bV_r]
  refine ⟨σ2, rfl, MO_go hm rfl rfl (by simp) ?_ h2⟩
  show _ = mOps (g.1.drop 1) r1
  rw [t1]; rfl
theorem j_23 (hm : MC x W q0 (q, pc, nm, ops) r (23, arg, tgt, pl, ty, g)) (h : MG x mi W g.2.1 nm (mOps g.1 ops) g.2.2.2 q r (Int32.ofNat (pos vM x.1 pc + 1)) fu σ) : ∃ σ', sm_callM X true (d + 12) 261 [vP (23, 0), vI 21, vI arg, vI (Int32.ofNat (pos vM x.1 pc))] σ = rV σ' ∧ MO x mi q0 (actM x W (q, pc, nm, ops) r fu (23, arg, tgt, pl, ty, g)) σ' := by
  obtain ⟨⟨t, S, t1, t2⟩, -, hW⟩ := MC_t hm
  obtain ⟨c0, r1, rfl, v0, -⟩ := ops1 hm t1
  have t1 : g.1 = t :: S := t1
  have ht := cRef_n t2
  have a1 := hW.1.1
  have a2 := hW.1.2.1
  rw [t1, mOps_c ht.2] at h
  obtain ⟨σ1, e1, h1⟩ := m_pop (X := X) (d := d + 10) h
  have hfin : ∀ (w : Int32) (τ : sm_S), MG x mi (sayM W w) g.2.1 nm (mOps S r1) g.2.2.2 q r (Int32.ofNat (pos vM x.1 pc + 1)) fu τ → MO x mi q0 (goM (sayM W w) (q, pc, nm, c0 :: r1) r fu r1) τ := fun w τ hG => by
    refine MO_go hm rfl rfl (by simp) ?_ hG
    show _ = mOps (g.1.drop 1) r1
    rw [t1]; rfl
  rw [mA_21, e1, bI_r]
  show ∃ σ', _ = rV σ' ∧ MO x mi q0 (goM (sayM W (if c0 < 0 then -1 - Int32.ofNat (rowAt W (ixR c0)).2.length else if c0 = 0 then -1000 else c0 - 1)) _ r fu r1) σ'
  by_cases z : c0 = 0
  · obtain ⟨σ2, e2, h2⟩ := m_says (X := X) (d := d + 10) (c := -1000) hW h1
    rw [if_pos ((mV_z hW v0).mpr z), e2, bV_r, if_neg (by rw [z]; decide), if_pos z]
    exact ⟨σ2, rfl, hfin _ _ h2⟩
  · rw [if_neg (fun y => z ((mV_z hW v0).mp y))]
    rcases VT_ref v0 t2 z with ⟨v, kk, n1, rfl, -⟩ | ⟨v, kk, n1, rfl, -⟩
    · have hn := rfV_pos (n := v) (by omega)
      obtain ⟨σ2, e2, h2⟩ := m_says (X := X) (d := d + 10) (c := rfV v - 1) hW h1
      have e2' : sm_callM X true (d + 11) 263 [vP (23, 0), vI (Int32.ofNat (v + 1) - 1)] σ1 = rV σ2 := e2
      rw [mV_veh (by omega), show (1001 : Int32) = Int32.ofNat 1001 from rfl, if_pos (by rw [i_lt (by omega) (by omega)]; omega), m_asV, bI_r, e2', bV_r, if_neg hn.1, if_neg z]
      exact ⟨σ2, rfl, hfin _ _ h2⟩
    · obtain ⟨σ2, e2, h2⟩ := m_says (X := X) (d := d + 10) (c := -1 - Int32.ofNat (rowAt W v).2.length) hW h1
      obtain ⟨p1, p2, p3, p4⟩ := h1.1.2.1.2.2.1 _ n1
      rw [mV_r1 t2 (by omega), show (1001 : Int32) = Int32.ofNat 1001 from rfl, if_neg (by rw [i_lt (by omega) (by omega)]; omega), i_sub, ix_nat (by omega) (by omega), p3, e2, bV_r, if_pos (rfR_neg (by omega)), ixR_rf (by omega)]
      exact ⟨σ2, rfl, hfin _ _ h2⟩
theorem j_24 (hm : MC x W q0 (q, pc, nm, ops) r (24, arg, tgt, pl, ty, g)) (h : MG x mi W g.2.1 nm (mOps g.1 ops) g.2.2.2 q r (Int32.ofNat (pos vM x.1 pc + 1)) fu σ) : ∃ σ', sm_callM X true (d + 12) 261 [vP (23, 0), vI (Int32.ofNat (if arg = 1 then 23 else 24)), vI 0, vI (Int32.ofNat (pos vM x.1 pc))] σ = rV σ' ∧ MO x mi q0 (actM x W (q, pc, nm, ops) r fu (24, arg, tgt, pl, ty, g)) σ' := by
  obtain ⟨t, -, hW⟩ := MC_t hm
  show ∃ σ', _ = rV σ' ∧ MO x mi q0 (leaveM W r fu (if arg = 1 then opn (q, pc, nm, ops) 0 else 0)) σ'
  rcases t with ⟨t1, t2, t, S, t3, t4⟩ | ⟨t1, t2⟩
  · have t1 : arg = 1 := t1
    obtain ⟨c0, r1, rfl, v0, -⟩ := ops1 hm t3
    have t3 : g.1 = t :: S := t3
    have hf := mV_fit t4
    rw [t3, mOps_c hf.1] at h
    obtain ⟨σ1, e1, h1⟩ := m_pop (X := X) (d := d + 10) h
    obtain ⟨σ2, e2, h2⟩ := m_leave (X := X) (d := d + 9) (v := c0) (wv := mV t c0) (is := 1) hm h1 (fun _ => hf.2.2 c0) (fun y => absurd y t2) ⟨fun y => absurd y (by decide), fun y => absurd y t2⟩
    have e2 : sm_callM X true (d + 11) 257 [vP (23, 0), vI (mV t c0), vI 1] σ1 = rV σ2 := e2
    have e0 : (vI (Int32.ofNat (if arg = 1 then 23 else 24)) : sm_V) = vI 23 := by rw [if_pos t1]; rfl
    rw [e0, mA_23, e1, bI_r, e2, bV_r, if_pos t1]
    exact ⟨σ2, rfl, h2⟩
  · have t1 : arg = 0 := t1
    have t0 : ¬ arg = 1 := by rw [t1]; decide
    obtain ⟨σ2, e2, h2⟩ := m_leave (X := X) (d := d + 9) (v := 0) (wv := 0) (is := 0) hm h (fun y => absurd t2 y) (fun _ => ⟨rfl, rfl⟩) ⟨fun _ => t2, fun _ => rfl⟩
    have e2 : sm_callM X true (d + 11) 257 [vP (23, 0), vI 0, vI 0] σ = rV σ2 := e2
    have e0 : (vI (Int32.ofNat (if arg = 1 then 23 else 24)) : sm_V) = vI 24 := by rw [if_neg t0]; rfl
    rw [e0, mA_24, e2, bV_r, if_neg t0]
    exact ⟨σ2, rfl, h2⟩
theorem j_25 (hm : MC x W q0 (q, pc, nm, ops) r (25, arg, tgt, pl, ty, g)) (h : MG x mi W g.2.1 nm (mOps g.1 ops) g.2.2.2 q r (Int32.ofNat (pos vM x.1 pc + 1)) fu σ) : ∃ σ', sm_callM X true (d + 12) 261 [vP (23, 0), vI 22, vI arg, vI (Int32.ofNat (pos vM x.1 pc))] σ = rV σ' ∧ MO x mi q0 (actM x W (q, pc, nm, ops) r fu (25, arg, tgt, pl, ty, g)) σ' := by
  obtain ⟨⟨S, t1⟩, -, hW⟩ := MC_t hm
  obtain ⟨c0, r1, rfl, v0, -⟩ := ops1 hm t1
  have t1 : g.1 = 36 :: S := t1
  rw [t1, mOps_c (by decide), mV_i rfl] at h
  obtain ⟨σ1, e1, h1⟩ := m_pop (X := X) (d := d + 10) h
  obtain ⟨σ2, e2, h2⟩ := m_fault (X := X) (d := d + 9) (why := 6) (own := c0) (v := c0) hm rfl h1 (by decide) (by rw [if_pos rfl])
  have e2 : sm_callM X true (d + 11) 256 [vP (23, 0), vI 6, vI c0, vI (Int32.ofNat (pos vM x.1 pc))] σ1 = rV σ2 := e2
  rw [mA_22, e1, bI_r, e2, bV_r]
  exact ⟨σ2, rfl, h2⟩
theorem j_26 (hm : MC x W q0 (q, pc, nm, ops) r (26, arg, tgt, pl, ty, g)) (h : MG x mi W g.2.1 nm (mOps g.1 ops) g.2.2.2 q r (Int32.ofNat (pos vM x.1 pc + 1)) fu σ) : ∃ σ', sm_callM X true (d + 12) 261 [vP (23, 0), vI 19, vI (Int32.ofNat (pos vM x.1 tgt)), vI (Int32.ofNat (pos vM x.1 pc))] σ = rV σ' ∧ MO x mi q0 (actM x W (q, pc, nm, ops) r fu (26, arg, tgt, pl, ty, g)) σ' := by
  obtain ⟨t1, -, hW⟩ := MC_t hm
  obtain ⟨c0, r1, rfl, v0, -⟩ := ops1 hm t1
  have t1 : g.1 = [36] := t1
  rw [t1, mOps_c (by decide), mV_i rfl] at h
  obtain ⟨σ1, e1, h1⟩ := m_pop (X := X) (d := d + 10) h
  rw [mA_19, e1, bI_r]
  show ∃ σ', _ = rV σ' ∧ MO x mi q0 (if c0 = 0 then .inl (W, (q, tgt, nm, r1) :: r, fu) else goM W _ r fu r1) σ'
  by_cases z : c0 = 0
  · rw [if_pos z, if_pos z]
    obtain ⟨hx, -, hF, hi, -, -⟩ := hm
    obtain ⟨hL, -⟩ := (wt_ok hx hi).2.2.1
    have hL : Lands x.1 none tgt ([], g.2) := hL
    obtain ⟨e', l1, l2, l3, l4, l5, l6⟩ := Lands_0 hL
    have l3 : (i_g e').1 = [] := l3
    have l6 : i_h e' = g.2.2.2 := l6
    refine ⟨_, rfl, (q, tgt, nm, r1), r, e', rfl, l1, ?_⟩
    show MG x mi W (i_g e').2.1 nm (mOps (i_g e').1 r1) (i_h e') q r (Int32.ofNat (pos vM x.1 tgt)) fu _
    rw [l3, l6]
    exact MG_k (fun y hy => l4 y hy) (MG_nx h1)
  · rw [if_neg z, if_neg z]
    refine ⟨σ1, rfl, MO_go hm rfl rfl (by simp) ?_ h1⟩
    show _ = mOps (g.1.drop 1) r1
    rw [t1]; rfl
end
