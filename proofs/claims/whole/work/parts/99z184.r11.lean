section
/-! THE REFERENCE's MACHINE: items 27 to 32 -/
variable {X : Nat × (Nat → Int32)} {d : Nat} {s σ σ' : sm_S} {W W' : zW} {n i k m j mi q pc q0 tgt : Nat} {c t u nx v arg ty pl c0 c1 c2 : Int32} {x : zTx} {K : List (Nat × Int32)} {nm : Nat → Int32} {S ops L A : List Int32} {H : List Nat} {r : List zFr} {fu : Nat} {e : zI} {f : zFr} {g : zG}
theorem mOps_ap : ∀ (A ops : List Int32), (∀ t ∈ A, t ≠ 38) → A.length ≤ ops.length → mOps (A ++ S) ops = List.zipWith mV A ops ++ mOps S (ops.drop A.length)
  | [], _, _, _ => rfl
  | t :: A, [], _, h => by rw [List.length_cons] at h; simp at h
  | t :: A, c :: ops, h, hl => by
    have h1 : t ≠ 38 := h t List.mem_cons_self
    have h2 : A.length ≤ ops.length := by rw [List.length_cons, List.length_cons] at hl; omega
    show mOps (t :: (A ++ S)) (c :: ops) = _
    rw [mOps_c h1, mOps_ap A ops (fun t ht => h t (List.mem_cons_of_mem _ ht)) h2]
    rfl
theorem m_begins5 (ha : ¬ arg < 12) {k' : Int32} : sm_callM X true (d + 1) 259 [vP (23, 0), vI arg, vI k'] σ = sm_bV (sm_callM X true d 270 [vP (23, 0), vI arg, vI k'] σ) sm_tw fun s => rV s := by
  rw [f_X13_begins, q_X13_begins_0, if_neg ha]
theorem j_27 (hm : MC x W q0 (q, pc, nm, ops) r (27, arg, tgt, pl, ty, g)) (h : MG x mi W g.2.1 nm (mOps g.1 ops) g.2.2.2 q r (Int32.ofNat (pos vM x.1 pc + 1)) fu σ) : ∃ σ', sm_callM X true (d + 12) 261 [vP (23, 0), vI 18, vI (arg - 5), vI (Int32.ofNat (pos vM x.1 pc))] σ = rV σ' ∧ MO x mi q0 (actM x W (q, pc, nm, ops) r fu (27, arg, tgt, pl, ty, g)) σ' := by
  obtain ⟨⟨k, p, us, S, t1, t2, t3, t4, t5, t6⟩, s, hW⟩ := MC_t hm
  have t3 : arg = Int32.ofNat (5 + k) := t3
  have t4 : g.1 = us.reverse ++ S := t4
  have t6 : ty = p.2.1 := t6
  have s : VTs W g.1 ops := s
  have e1 : arg - 5 = Int32.ofNat k := by rw [t3]; exact i_sub (p := 5)
  have e2 : Int32.ofNat k < 12 := by rw [show (12 : Int32) = Int32.ofNat 12 from rfl, i_lt (by omega) (by omega)]; exact t2
  have e3 : (Int32.ofNat k).toNatClampNeg = k := i_tn (by omega)
  have e4 : qPar x.2.2 (arg - 5) = p.2.2.1 := by
    unfold qPar; rw [e1, if_pos e2, e3, t1]; rfl
  have e5 : (x.2.2.getD k ([], 38, [], 0)) = p := by
    rw [List.getD_eq_getElem?_getD, t1]; rfl
  have hx := hm.1
  have hi := hm.2.2.2.1
  have hsl := s.1
  rw [t4, List.length_append, List.length_reverse, t5.1] at hsl
  have hrl : us.reverse.length = p.2.2.1.length := by rw [List.length_reverse, t5.1]
  obtain ⟨h1120, h80⟩ := room_m hm
  have h80 : ops.length ≤ 80 := h80
  have h38 : ∀ t ∈ us.reverse, t ≠ 38 := fun t ht => by
    rw [List.mem_reverse] at ht
    obtain ⟨i, hi1, hi2⟩ := List.mem_iff_getElem.mp ht
    obtain ⟨y, hy⟩ : ∃ y, p.2.2.1[i]? = some y := ⟨p.2.2.1[i]'(by rw [← t5.1]; exact hi1), List.getElem?_eq_getElem _⟩
    exact (mV_fit (t5.2 i t y (by rw [← hi2]; exact List.getElem?_eq_getElem hi1) hy)).1
  have hLs : mOps g.1 ops = List.zipWith mV us.reverse ops ++ mOps S (ops.drop p.2.2.1.length) := by
    rw [t4, mOps_ap us.reverse ops h38 (by omega), hrl]
  have hzl : (List.zipWith mV us.reverse ops).length = p.2.2.1.length := by rw [List.length_zipWith, hrl]; omega
  have hl : r.length + 1 ≤ 15 := hm.2.2.2.2.1
  rw [mA_18, f_X13_begins, q_X13_begins_0, e1, if_pos e2]
  show ∃ σ', _ = rV σ' ∧ MO x mi q0 (if r.length < 14 then .inl (W, ((arg - 5).toNatClampNeg, (x.2.2.getD (arg - 5).toNatClampNeg ([], 38, [], 0)).2.2.2, argN (qPar x.2.2 (arg - 5)).length ops, []) :: (q, pc + 1, nm, ops.drop (qPar x.2.2 (arg - 5)).length) :: r, fu) else endM 9 _ W fu 0) σ'
  have h39 := h.2.2.2.2.1
  rw [h39, show (14 : Int32) = Int32.ofNat 14 from rfl]
  by_cases z : r.length < 14
  · rw [if_neg (by rw [i_eq (by omega) (by omega)]; omega), if_pos z, e4, e1, e3, e5, i_s, i_s]
    obtain ⟨w, h1, h2, h3, h4, h5, h6, ⟨h7, h8, h9, h10⟩, ⟨a1, a2, a3, a4, a5, a6⟩, h12, h13, h14, h15⟩ := h
    rw [hLs, List.length_append, hzl] at h3 a5 h14
    have h3' : σ.1 23 0 37 = Int32.ofNat (p.2.2.1.length + (hM x.1 r + (mOps S (ops.drop p.2.2.1.length)).length)) := by rw [h3]; congr 1; omega
    obtain ⟨τ, f1, g1, g2, g3, g4, g5, g6, g7, g8, g9, g10⟩ := m_enter (X := X) (d := d + 9) (σ := sI σ 23 0 39 (Int32.ofNat (r.length + 1))) (bk := Int32.ofNat (pos vM x.1 pc + 1)) (dep := r.length + 1) (bt := hM x.1 r + (mOps S (ops.drop p.2.2.1.length)).length) (mi := mi) (x := x) h1 h2 t1 hx.2.2.2.1 rfl (by omega) h3' (by omega)
    have f1 : sm_callM X true (d + 10) 258 [vP (23, 0), vI (Int32.ofNat k), vI (Int32.ofNat (pos vM x.1 pc + 1))] (sI σ 23 0 39 (Int32.ofNat (r.length + 1))) = rV τ := f1
    rw [f1, bV_r, bV_r]
    obtain ⟨e'', l1, l2, l3, l4, l5, l6⟩ := Lands_0 (hx.2.2.1 k p t1)
    have l3 : (i_g e'').1 = [] := l3
    have l6 : i_h e'' = [] := l6
    have hL := (wt_ok hx hi).2.1 rfl
    have hL : Lands x.1 none (pc + 1) (effS x.2.2 27 arg ty g.1, g.2) := hL
    have eS : effS x.2.2 27 arg ty g.1 = p.2.1 :: S := by
      show ty :: g.1.drop (qPar x.2.2 (arg - 5)).length = _
      rw [e4, t6, t4, List.drop_append_of_le_length (by rw [hrl]; exact Nat.le_refl _), List.drop_of_length_le (by rw [hrl]; exact Nat.le_refl _)]
      rfl
    rw [eS] at hL
    obtain ⟨e', k1, k2, k3, k4, k5, k6⟩ := Lands_0 hL
    have k3 : (i_g e').1 = p.2.1 :: S := k3
    have k6 : i_h e' = g.2.2.2 := k6
    have hg' : gOf x.1 (pc + 1) = i_g e' := gOf_e k1
    have hsus : susL x.1 (q, pc + 1, nm, ops.drop p.2.2.1.length) = mOps S (ops.drop p.2.2.1.length) := by
      unfold susL
      show mOps ((gOf x.1 (pc + 1)).1.drop 1) (ops.drop p.2.2.1.length) = _
      rw [hg', k3]; rfl
    have hhM : hM x.1 ((q, pc + 1, nm, ops.drop p.2.2.1.length) :: r) = hM x.1 r + (mOps S (ops.drop p.2.2.1.length)).length := by
      show hM x.1 r + (susL x.1 _).length = _
      rw [hsus]
    have G : ∀ t a j, t ≠ 82 → t ≠ 83 → t ≠ 84 → t ≠ 85 → ¬ (t = 23 ∧ (j = 37 ∨ j = 48 ∨ j = 39)) → τ.1 t a j = σ.1 t a j := fun t a j y1 y2 y3 y4 y5 => by
      rw [g1 t a j y1 y2 y3 y4 (by omega), gI, if_neg (by omega)]
    have hpos : pos vM x.1 (pc + 1) = pos vM x.1 pc + 1 := by rw [pos_s hi, if_pos (show vM (27, arg, tgt, pl, ty, g).1 = true from rfl)]
    refine ⟨τ, rfl, ((k, p.2.2.2, argN p.2.2.1.length ops, []) : zFr), (q, pc + 1, nm, ops.drop p.2.2.1.length) :: r, e'', rfl, l1, MW_i (σ := σ) (fun t i k' ht => G _ _ _ (by omega) (by omega) (by omega) (by omega) (by omega)) w, ?_⟩
    show MSt x mi (i_g e'').2.1 (argN p.2.2.1.length ops) (mOps (i_g e'').1 []) (i_h e'') k ((q, pc + 1, nm, ops.drop p.2.2.1.length) :: r) (Int32.ofNat (pos vM x.1 p.2.2.2)) fu τ
    have em : mOps (i_g e'').1 [] = [] := by rw [l3]; rfl
    rw [em, l6]
    refine ⟨MTx_s (σ := σ) (fun t k' ht => G _ _ _ (by omega) (by omega) (by omega) (by omega) (by omega)) h1, by rw [g2]; exact h2, ?_, ?_, g4, (G _ _ _ (by omega) (by omega) (by omega) (by omega) (by omega)).trans h6, ⟨(G _ _ _ (by omega) (by omega) (by omega) (by omega) (by omega)).trans h7, (G _ _ _ (by omega) (by omega) (by omega) (by omega) (by omega)).trans h8, (G _ _ _ (by omega) (by omega) (by omega) (by omega) (by omega)).trans h9, (G _ _ _ (by omega) (by omega) (by omega) (by omega) (by omega)).trans h10⟩, ⟨?_, g7, fun g0 r' hg0 => ?_, fun y hy => ?_, (fun i c hi => by cases hi), fun y hy => ?_⟩, ⟨⟨?_, ?_, fun g0 r' hg0 => ?_, fun y hy => ?_, fun i c hic => ?_, fun y hy => ?_⟩, ?_⟩, ?_, ?_, ?_⟩
    · rw [hhM]; exact g3
    · rw [g1 _ _ _ (by omega) (by omega) (by omega) (by omega) (by omega), gI, if_pos ⟨rfl, rfl, rfl⟩]; rfl
    · rw [hhM]; exact g8
    · cases hg0
      show τ.1 83 0 (r.length + 1) = Int32.ofNat (pos vM x.1 (pc + 1))
      rw [hpos]; exact g6
    · have hy' := kPar_mem (l4 y hy)
      have hlt := (List.getElem?_eq_some_iff.mp hy').1
      show τ.1 82 0 (24 * (r.length + 1) + y.1) = mV y.2 (argN p.2.2.1.length ops y.1)
      rw [g10 _ hlt]
      show σ.1 81 0 (hM x.1 r + (mOps S (ops.drop p.2.2.1.length)).length + y.1) = _
      obtain ⟨u, hu⟩ : ∃ u, us[y.1]? = some u := ⟨us[y.1]'(by rw [t5.1]; exact hlt), List.getElem?_eq_getElem _⟩
      have hrev : us.reverse[p.2.2.1.length - 1 - y.1]? = some u := by
        rw [List.getElem?_reverse (by rw [t5.1]; omega), ← hu, t5.1]; congr 1; omega
      have hlo : p.2.2.1.length - 1 - y.1 < ops.length := by omega
      have ha := a5 (p.2.2.1.length - 1 - y.1) (mV u (ops[p.2.2.1.length - 1 - y.1])) (by
        rw [List.getElem?_append_left (by rw [hzl]; omega), List.getElem?_zipWith, hrev, List.getElem?_eq_getElem hlo])
      rw [show hM x.1 r + (p.2.2.1.length + (mOps S (ops.drop p.2.2.1.length)).length - 1 - (p.2.2.1.length - 1 - y.1)) = hM x.1 r + (mOps S (ops.drop p.2.2.1.length)).length + y.1 by omega] at ha
      rw [ha, (mV_fit (t5.2 y.1 u y.2 hu hy')).2.2]
      unfold argN
      rw [if_pos hlt, List.getD_eq_getElem?_getD, List.getElem?_eq_getElem hlo]; rfl
    · have := kPar_lt y (l4 y hy)
      have := (h1.2.2.2 k p t1).2.2.1
      omega
    · rw [(g5 _ (by omega)).2.2]; exact a1
    · rw [(g5 _ (by omega)).2.1]; exact a2
    · rw [(g5 _ (by omega)).1]; exact a3 g0 r' hg0
    · rw [hg'] at hy
      have hy2 := k4 y hy
      have := a6 y hy2
      rw [g9 _ (by omega)]; exact a4 y hy2
    · rw [hsus] at hic ⊢
      have hlt := (List.getElem?_eq_some_iff.mp hic).1
      have := a5 (p.2.2.1.length + i) c (by rw [List.getElem?_append_right (by omega), hzl, Nat.add_sub_cancel_left]; exact hic)
      rw [show p.2.2.1.length + (mOps S (ops.drop p.2.2.1.length)).length - 1 - (p.2.2.1.length + i) = (mOps S (ops.drop p.2.2.1.length)).length - 1 - i by omega] at this
      rw [G _ _ _ (by omega) (by omega) (by omega) (by omega) (by omega)]; exact this
    · rw [hg'] at hy; exact a6 y (k4 y hy)
    · exact MF_s (σ := σ) r (fun j hj => G _ _ _ (by omega) (by omega) (by omega) (by omega) (by omega)) (fun j hj => g9 j (by omega)) (fun j hj => g5 j (by omega)) h12
    · have eT : trF x.1 [] ((q, pc + 1, nm, ops.drop p.2.2.1.length) :: r) ++ trR x.1 ((q, pc + 1, nm, ops.drop p.2.2.1.length) :: r) = trF x.1 g.2.2.2 r ++ trR x.1 r := by
        show trR x.1 ((q, pc + 1, nm, ops.drop p.2.2.1.length) :: r) = _
        rw [trR_hd k1, k6]
      rw [eT]
      exact TrM_s (σ := σ) (G _ _ _ (by omega) (by omega) (by omega) (by omega) (by omega)) (fun t j q1 q2 _ => G _ _ _ (by omega) (by omega) (by omega) (by omega) (by omega)) h13
    · rw [hhM]
      have := mOps_len S (ops.drop p.2.2.1.length)
      show hM x.1 r + (mOps S (ops.drop p.2.2.1.length)).length + 0 ≤ 1300
      omega
    · show r.length + 1 ≤ 14; omega
  · obtain ⟨σ4, f4, h4⟩ := m_endE (X := X) (d := d + 9) (v := 0) (why := 9) (q0 := q0) h hx.2.2.2.1 hi rfl (by decide) (by decide)
    have f4 : sm_callM X true (d + 10) 255 [vP (23, 0), vI 9, vI (Int32.ofNat (pos vM x.1 pc))] σ = rV σ4 := f4
    rw [if_pos (by rw [i_eq (by omega) (by omega)]; omega), f4, bV_r, bV_r, if_neg z]
    exact ⟨σ4, rfl, h4⟩
theorem j_28 (hm : MC x W q0 (q, pc, nm, ops) r (28, arg, tgt, pl, ty, g)) (h : MG x mi W g.2.1 nm (mOps g.1 ops) g.2.2.2 q r (Int32.ofNat (pos vM x.1 pc + 1)) fu σ) : ∃ σ', sm_callM X true (d + 12) 261 [vP (23, 0), vI 18, vI 12, vI (Int32.ofNat (pos vM x.1 pc))] σ = rV σ' ∧ MO x mi q0 (actM x W (q, pc, nm, ops) r fu (28, arg, tgt, pl, ty, g)) σ' := by
  obtain ⟨⟨S, t1, t2⟩, -, hW⟩ := MC_t hm
  obtain ⟨c0, r1, rfl, v0, -⟩ := ops1 hm t1
  have t1 : g.1 = 36 :: S := t1
  have t2 : ty = 18 := t2
  rw [t1, mOps_c (by decide), mV_i rfl] at h
  obtain ⟨σ1, e1, h1⟩ := m_pop (X := X) (d := d + 8) h
  rw [mA_18, m_begins5 (by decide), f_X13_five_, q_X13_five__0, if_pos (show (12 : Int32) - 12 = 0 by decide), e1, bI_r, m_isTrack, bI_r]
  show ∃ σ', _ = rV σ' ∧ MO x mi q0 (goM W _ r fu ((if isTr c0 then w_t W c0.toNatClampNeg else 0) :: r1)) σ'
  have hfin : ∀ (v : Int32) (τ : sm_S), MG x mi W g.2.1 nm (mV 18 v :: mOps S r1) g.2.2.2 q r (Int32.ofNat (pos vM x.1 pc + 1)) fu τ → MO x mi q0 (goM W (q, pc, nm, c0 :: r1) r fu (v :: r1)) τ := fun v τ hG => by
    refine MO_go hm rfl rfl (by simp) ?_ hG
    show _ = mOps (ty :: g.1.drop 1) (v :: r1)
    rw [t1, t2, mOps_c (by decide)]; rfl
  by_cases z : isTr c0
  · obtain ⟨n, n1, n2, n3⟩ := isTr_n z
    obtain ⟨σ2, e2, h2⟩ := m_push (X := X) (d := d + 8) (c := mV 18 (w_t W n)) h1 (m_rm hm (r2_80 hm))
    rw [if_pos z, if_neg (show ¬ (1 : Int32) = 0 by decide), if_pos z, n3, n2, ix_nat (by omega) (by omega), (h1.1.2.2.1 n n1).2, e2, bV_r, bV_r, bV_r]
    rw [n2] at hfin
    exact ⟨σ2, rfl, hfin _ _ h2⟩
  · obtain ⟨σ2, e2, h2⟩ := m_push (X := X) (d := d + 8) (c := 0) h1 (m_rm hm (r2_80 hm))
    rw [if_neg z, if_pos (show (0 : Int32) = 0 from rfl), if_neg z, e2, bV_r, bV_r, bV_r]
    exact ⟨σ2, rfl, hfin 0 σ2 (by rw [mV_0]; exact h2)⟩
theorem j_29 (hm : MC x W q0 (q, pc, nm, ops) r (29, arg, tgt, pl, ty, g)) (h : MG x mi W g.2.1 nm (mOps g.1 ops) g.2.2.2 q r (Int32.ofNat (pos vM x.1 pc + 1)) fu σ) : ∃ σ', sm_callM X true (d + 12) 261 [vP (23, 0), vI 18, vI 13, vI (Int32.ofNat (pos vM x.1 pc))] σ = rV σ' ∧ MO x mi q0 (actM x W (q, pc, nm, ops) r fu (29, arg, tgt, pl, ty, g)) σ' := by
  obtain ⟨⟨u, S, t1, t2, t3⟩, -, hW⟩ := MC_t hm
  obtain ⟨c0, c1, r2, rfl, v0, v1, -⟩ := ops2 hm t1
  have t1 : g.1 = u :: 36 :: S := t1
  have w0 := VT_fit v0 t2
  have hu := mV_fit t2
  rw [t1, mOps_c hu.1, mOps_c (by decide), mV_i rfl, hu.2.2] at h
  obtain ⟨σ1, e1, h1⟩ := m_pop (X := X) (d := d + 8) h
  obtain ⟨σ2, e2, h2⟩ := m_pop (X := X) (d := d + 8) h1
  rw [mA_18, m_begins5 (by decide), f_X13_five_, q_X13_five__0, if_neg (show ¬ (13 : Int32) - 12 = 0 by decide), if_pos (show (13 : Int32) - 12 = 1 by decide), e1, bI_r, e2, bI_r, m_isTrack, bI_r]
  show ∃ σ', _ = rV σ' ∧ MO x mi q0 (if isTr c1 ∧ (c0 = 0 ∨ mayLay W c1.toNatClampNeg c0) then goM (wTk W (fset (w_t W) c1.toNatClampNeg c0)) _ r fu (1 :: r2) else goM W _ r fu (0 :: r2)) σ'
  have no : ∀ (dd : Int32), ¬ (isTr c1 ∧ (c0 = 0 ∨ mayLay W c1.toNatClampNeg c0)) → ∃ σ', sm_go (sm_ZZ X) sm_PP true (sm_callM X true (d + 9)) 270 103 [vP (23, 0), vI 13, vI (Int32.ofNat (pos vM x.1 pc)), vI (mV 18 c0), vI c1, vU] [vI 0] σ2 = rV σ' ∧ MO x mi q0 (if isTr c1 ∧ (c0 = 0 ∨ mayLay W c1.toNatClampNeg c0) then goM (wTk W (fset (w_t W) c1.toNatClampNeg c0)) (q, pc, nm, c0 :: c1 :: r2) r fu (1 :: r2) else goM W (q, pc, nm, c0 :: c1 :: r2) r fu (0 :: r2)) σ' := fun _ hn => by
    obtain ⟨σ3, e3, h3⟩ := m_push (X := X) (d := d + 8) (c := 0) h2 (m_rm hm (r3_80 hm))
    rw [q_X13_five__103, if_pos rfl, q_X13_five__118, if_pos rfl, e3, bV_r, if_neg hn]
    exact ⟨σ3, rfl, fin2 hm ⟨rfl, rfl, by simp, rfl, rfl⟩ t1 t3 h3⟩
  have yes : ∀ (n : Nat), n < 8 → c1 = Int32.ofNat n → c1.toNatClampNeg = n → (isTr c1 ∧ (c0 = 0 ∨ mayLay W c1.toNatClampNeg c0)) → ∃ σ', sm_go (sm_ZZ X) sm_PP true (sm_callM X true (d + 9)) 270 103 [vP (23, 0), vI 13, vI (Int32.ofNat (pos vM x.1 pc)), vI (mV 18 c0), vI c1, vU] [vI 1] σ2 = rV σ' ∧ MO x mi q0 (if isTr c1 ∧ (c0 = 0 ∨ mayLay W c1.toNatClampNeg c0) then goM (wTk W (fset (w_t W) c1.toNatClampNeg c0)) (q, pc, nm, c0 :: c1 :: r2) r fu (1 :: r2) else goM W (q, pc, nm, c0 :: c1 :: r2) r fu (0 :: r2)) σ' := fun n n1 n2 n3 hy => by
    have hset : MG x mi (wTk W (fset (w_t W) n c0)) g.2.1 nm (mOps S r2) g.2.2.2 q r (Int32.ofNat (pos vM x.1 pc + 1)) fu (sI σ2 91 0 n (mV 18 c0)) := ⟨MW_track (c := c0) h2.1, MSt_i (σ := σ2) (fun t i k ht => by rw [gI, if_neg (by omega)]) rfl h2.2⟩
    obtain ⟨σ3, e3, h3⟩ := m_push (X := X) (d := d + 8) (c := 1) hset (m_rm hm (r3_80 hm))
    have e0 : (vI c1 : sm_V) = vI (Int32.ofNat n) := by rw [n2]
    rw [q_X13_five__103, if_neg (show ¬ (1 : Int32) = 0 by decide), n2, ix_nat (by omega) (by omega), q_X13_five__118, if_neg (show ¬ (1 : Int32) = 0 by decide), e3, bV_r, ← n2, if_pos hy, n3]
    exact ⟨σ3, rfl, MO_go hm rfl rfl (by simp) (by
      show _ = mOps (ty :: g.1.drop 2) (1 :: r2)
      have t3 : ty = 36 := t3
      rw [t1, t3, mOps_c (by decide), mV_i rfl]; rfl) h3⟩
  by_cases z : isTr c1
  · obtain ⟨n, n1, n2, n3⟩ := isTr_n z
    rw [if_pos z, if_neg (show ¬ (1 : Int32) = 0 by decide)]
    by_cases c00 : c0 = 0
    · obtain ⟨σ', a1, a2⟩ := yes n n1 n2 n3 ⟨z, Or.inl c00⟩
      rw [if_pos ((mV_z hW w0).mpr c00), a1, bV_r, bV_r]
      exact ⟨σ', rfl, a2⟩
    · have et := m_takes (X := X) (d := d + 3) hW h2.1 w0 n1
      have et : sm_callM X true (d + 9) 269 [vP (23, 0), vI (Int32.ofNat n), vI (mV 18 c0)] σ2 = _ := et
      rw [← n2] at et
      rw [if_neg (fun y => c00 ((mV_z hW w0).mp y)), et, bI_r]
      by_cases ml : mayLay W n c0
      · obtain ⟨σ', a1, a2⟩ := yes n n1 n2 n3 ⟨z, Or.inr (by rw [n3]; exact ml)⟩
        rw [if_pos (show c0 ≠ 0 ∧ mayLay W n c0 from ⟨c00, ml⟩), if_neg (show ¬ (1 : Int32) = 0 by decide), a1, bV_r, bV_r]
        exact ⟨σ', rfl, a2⟩
      · obtain ⟨σ', a1, a2⟩ := no 0 (fun y => y.2.elim c00 (fun y => by rw [n3] at y; exact ml y))
        rw [if_neg (show ¬ (c0 ≠ 0 ∧ mayLay W n c0) from fun y => ml y.2), if_pos (show (0 : Int32) = 0 from rfl), a1, bV_r, bV_r]
        exact ⟨σ', rfl, a2⟩
  · obtain ⟨σ', a1, a2⟩ := no 0 (fun y => z y.1)
    rw [if_neg z, if_pos (show (0 : Int32) = 0 from rfl), a1, bV_r, bV_r]
    exact ⟨σ', rfl, a2⟩
theorem j_30 (hm : MC x W q0 (q, pc, nm, ops) r (30, arg, tgt, pl, ty, g)) (h : MG x mi W g.2.1 nm (mOps g.1 ops) g.2.2.2 q r (Int32.ofNat (pos vM x.1 pc + 1)) fu σ) : ∃ σ', sm_callM X true (d + 12) 261 [vP (23, 0), vI 18, vI 14, vI (Int32.ofNat (pos vM x.1 pc))] σ = rV σ' ∧ MO x mi q0 (actM x W (q, pc, nm, ops) r fu (30, arg, tgt, pl, ty, g)) σ' := by
  obtain ⟨⟨u, t, S, t1, t2, t3, t4⟩, -, hW⟩ := MC_t hm
  obtain ⟨c0, c1, r2, rfl, v0, v1, -⟩ := ops2 hm t1
  have t1 : g.1 = u :: t :: S := t1
  have w0 := VT_fit v0 t2
  have w1 := VT_fit v1 t3
  have hu := mV_fit t2
  have ht := mV_fit t3
  have a2 := hW.1.2.1
  rw [t1, mOps_c hu.1, mOps_c ht.1, hu.2.2, ht.2.2] at h
  obtain ⟨σ1, e1, h1⟩ := m_pop (X := X) (d := d + 8) h
  obtain ⟨σ2, e2, h2⟩ := m_pop (X := X) (d := d + 8) h1
  rw [mA_18, m_begins5 (by decide), f_X13_five_, q_X13_five__0, if_neg (show ¬ (14 : Int32) - 12 = 0 by decide), if_neg (show ¬ (14 : Int32) - 12 = 1 by decide), if_pos (show (14 : Int32) - 12 = 2 by decide), e1, bI_r, e2, bI_r]
  show ∃ σ', _ = rV σ' ∧ MO x mi q0 (if c1 = 0 ∨ c0 = 0 then raiseM x.1 W _ fu _ 1 1 else goM (humpW (ixR c1) (ixR c0) (if ixR c1 = ixR c0 then 0 else (rowAt W (ixR c1)).2.length) 0 W).2 _ r fu (Int32.ofNat (humpW (ixR c1) (ixR c0) (if ixR c1 = ixR c0 then 0 else (rowAt W (ixR c1)).2.length) 0 W).1 :: r2)) σ'
  obtain ⟨σ3, e3, h3⟩ := j_flt (X := X) (d := d + 7) (v := 1) hm rfl h2 (by decide)
  have e3 : sm_callM X true (d + 9) 256 [vP (23, 0), vI 1, vI 0, vI (Int32.ofNat (pos vM x.1 pc))] σ2 = rV σ3 := e3
  by_cases z1 : c1 = 0
  · rw [if_pos ((mV_z hW w1).mpr z1), e3, bV_r, bV_r, bV_r, if_pos (Or.inl z1)]
    exact ⟨σ3, rfl, h3⟩
  · rw [if_neg (fun y => z1 ((mV_z hW w1).mp y))]
    by_cases z0 : c0 = 0
    · rw [if_pos ((mV_z hW w0).mpr z0), e3, bV_r, bV_r, bV_r, if_pos (Or.inr z0)]
      exact ⟨σ3, rfl, h3⟩
    · obtain ⟨n0, m0⟩ := mV_rw hW w0 (by decide) z0
      obtain ⟨n1, m1⟩ := mV_rw hW w1 (by decide) z1
      obtain ⟨σ4, e4, w4⟩ := m_hump (X := X) (d := d + 3) hW h2.1 n1 n0
      have e4 : sm_callM X true (d + 9) 271 [vP (23, 0), vI (Int32.ofNat (ixR c1)), vI (Int32.ofNat (ixR c0))] σ2 = _ := e4
      have h4 := MG_y (by decide) e4 h2 w4
      obtain ⟨σ5, e5, h5⟩ := m_push (X := X) (d := d + 8) (c := Int32.ofNat (humpW (ixR c1) (ixR c0) (if ixR c1 = ixR c0 then 0 else (rowAt W (ixR c1)).2.length) 0 W).1) h4 (m_rm hm (r3_80 hm))
      rw [if_neg (fun y => z0 ((mV_z hW w0).mp y)), m0, m1, show (1001 : Int32) = Int32.ofNat 1001 from rfl, i_sub, i_sub, e4, bI_r, e5, bV_r, bV_r, bV_r, if_neg (fun y => y.elim z1 z0)]
      refine ⟨σ5, rfl, MO_go hm rfl rfl (by simp) ?_ h5⟩
      show _ = mOps (ty :: g.1.drop 2) (_ :: r2)
      have t4 : ty = 36 := t4
      rw [t1, t4, mOps_c (by decide), mV_i rfl]; rfl
theorem j_31 (hm : MC x W q0 (q, pc, nm, ops) r (31, arg, tgt, pl, ty, g)) (h : MG x mi W g.2.1 nm (mOps g.1 ops) g.2.2.2 q r (Int32.ofNat (pos vM x.1 pc + 1)) fu σ) : ∃ σ', sm_callM X true (d + 12) 261 [vP (23, 0), vI 18, vI 15, vI (Int32.ofNat (pos vM x.1 pc))] σ = rV σ' ∧ MO x mi q0 (actM x W (q, pc, nm, ops) r fu (31, arg, tgt, pl, ty, g)) σ' := by
  obtain ⟨⟨t, S, t1, t2, t3⟩, s, hW⟩ := MC_t hm
  have t1 : g.1 = 36 :: 36 :: t :: S := t1
  have s : VTs W g.1 ops := s
  rw [t1] at s
  obtain ⟨c0, r1, rfl, v0, s1⟩ := VTs_tail s
  obtain ⟨c1, r2, rfl, v1, s2⟩ := VTs_tail s1
  obtain ⟨c2, r3, rfl, v2, s3⟩ := VTs_tail s2
  have w2 := VT_fit v2 t2
  have ht := mV_fit t2
  rw [t1, mOps_c (by decide), mOps_c (by decide), mOps_c ht.1, mV_i rfl, mV_i rfl, ht.2.2] at h
  obtain ⟨σ1, e1, h1⟩ := m_pop (X := X) (d := d + 8) h
  obtain ⟨σ2, e2, h2⟩ := m_pop (X := X) (d := d + 8) h1
  obtain ⟨σ3, e3, h3⟩ := m_pop (X := X) (d := d + 8) h2
  have h80 : (mOps S r3).length ≤ 80 := by
    have h3 := (room_m hm).2
    have h4 := mOps_len S r3
    have h3 : (c0 :: c1 :: c2 :: r3).length ≤ 80 := h3
    rw [List.length_cons, List.length_cons, List.length_cons] at h3; omega
  rw [mA_18, m_begins5 (by decide), f_X13_five_, q_X13_five__0, if_neg (show ¬ (15 : Int32) - 12 = 0 by decide), if_neg (show ¬ (15 : Int32) - 12 = 1 by decide), if_neg (show ¬ (15 : Int32) - 12 = 2 by decide), if_pos (show (15 : Int32) - 12 = 3 by decide), e1, bI_r, e2, bI_r, e3, bI_r]
  show ∃ σ', _ = rV σ' ∧ MO x mi q0 (if c2 = 0 then raiseM x.1 W _ fu _ 1 1 else goM (sendW W (ixR c2) c1 c0).2 _ r fu ((sendW W (ixR c2) c1 c0).1 :: r3)) σ'
  by_cases z : c2 = 0
  · obtain ⟨σ4, e4, h4⟩ := j_flt (X := X) (d := d + 7) (v := 1) hm rfl h3 (by decide)
    have e4 : sm_callM X true (d + 9) 256 [vP (23, 0), vI 1, vI 0, vI (Int32.ofNat (pos vM x.1 pc))] σ3 = rV σ4 := e4
    rw [if_pos ((mV_z hW w2).mpr z), e4, bV_r, bV_r, bV_r, if_pos z]
    exact ⟨σ4, rfl, h4⟩
  · obtain ⟨n2, m2⟩ := mV_rw hW w2 (by decide) z
    obtain ⟨σ4, e4, w4⟩ := m_send (X := X) (d := d + 7) (n := ixR c2) (t := c1) (c := c0) hW h3.1
    have e4 : sm_callM X true (d + 9) 272 [vP (23, 0), vI (Int32.ofNat (1001 + ixR c2)), vI c1, vI c0] σ3 = _ := e4
    have h4 := MG_y (by decide) e4 h3 w4
    obtain ⟨σ5, e5, h5⟩ := m_push (X := X) (d := d + 8) (c := (sendW W (ixR c2) c1 c0).1) h4 (m_rm hm h80)
    rw [if_neg (fun y => z ((mV_z hW w2).mp y)), m2, e4, bI_r, e5, bV_r, bV_r, bV_r, if_neg z]
    refine ⟨σ5, rfl, MO_go hm rfl rfl (by simp) ?_ h5⟩
    show _ = mOps (ty :: g.1.drop 3) (_ :: r3)
    have t3 : ty = 36 := t3
    rw [t1, t3, mOps_c (by decide), mV_i rfl]; rfl
theorem j_32 (hm : MC x W q0 (q, pc, nm, ops) r (32, arg, tgt, pl, ty, g)) (h : MG x mi W g.2.1 nm (mOps g.1 ops) g.2.2.2 q r (Int32.ofNat (pos vM x.1 pc + 1)) fu σ) : ∃ σ', sm_callM X true (d + 12) 261 [vP (23, 0), vI 18, vI 16, vI (Int32.ofNat (pos vM x.1 pc))] σ = rV σ' ∧ MO x mi q0 (actM x W (q, pc, nm, ops) r fu (32, arg, tgt, pl, ty, g)) σ' := by
  obtain ⟨t1, -, hW⟩ := MC_t hm
  have t1 : ty = 36 := t1
  obtain ⟨σ1, e1, h1⟩ := m_push (X := X) (d := d + 8) (c := w_c W) h (m_rm hm (mOps_80 hm))
  rw [mA_18, m_begins5 (by decide), f_X13_five_, q_X13_five__0, if_neg (show ¬ (16 : Int32) - 12 = 0 by decide), if_neg (show ¬ (16 : Int32) - 12 = 1 by decide), if_neg (show ¬ (16 : Int32) - 12 = 2 by decide), if_neg (show ¬ (16 : Int32) - 12 = 3 by decide), h.1.2.2.2.2.1, e1, bV_r, bV_r, bV_r]
  refine ⟨σ1, rfl, MO_go hm rfl rfl (by simp) ?_ h1⟩
  show _ = mOps (ty :: g.1) (_ :: ops)
  rw [t1, mOps_c (by decide), mV_i rfl]
end
