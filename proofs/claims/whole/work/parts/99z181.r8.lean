section
/-! THE REFERENCE's MACHINE: items 4 to 16 -/
variable {X : Nat × (Nat → Int32)} {d : Nat} {s σ σ' : sm_S} {W W' : zW} {n i k m j mi q pc q0 tgt : Nat} {c t u nx v arg ty pl c0 c1 c2 : Int32} {x : zTx} {K : List (Nat × Int32)} {nm : Nat → Int32} {S ops L : List Int32} {H : List Nat} {r : List zFr} {fu : Nat} {e : zI} {f : zFr} {g : zG}
theorem m_dep (h : MG x mi W K nm L H q r nx fu σ) : (24 : Int32) * σ.1 23 0 39 + Int32.ofNat n = Int32.ofNat (24 * r.length + n) := by
  rw [h.2.2.2.2.1, show (24 : Int32) = Int32.ofNat 24 from rfl, ← Int32.ofNat_mul, ← Int32.ofNat_add]
theorem m_top (h : MG x mi W K nm (c :: L) H q r nx fu σ) : σ.1 23 0 37 - 1 = Int32.ofNat (hM x.1 r + L.length) ∧ σ.1 81 0 (hM x.1 r + L.length) = c ∧ hM x.1 r + L.length < 1300 := by
  obtain ⟨w, h1, h2, h3, h4, h5, h6, h7, ⟨a1, a2, a3, a4, a5, a6⟩, h12, h13, h14, h15⟩ := h
  rw [List.length_cons] at h3 h14
  refine ⟨by rw [h3]; exact i_pred, ?_, by omega⟩
  have := a5 0 c rfl
  rw [List.length_cons, show L.length + 1 - 1 - 0 = L.length by omega] at this
  exact this
theorem m_rm (hm : MC x W q0 f r e) (hL : L.length ≤ 80) : hM x.1 r + L.length < 1300 := by
  have := (room_m hm).1
  omega
theorem mOps_80 (hm : MC x W q0 (q, pc, nm, ops) r e) : (mOps S ops).length ≤ 80 := by
  have h1 := (room_m hm).2
  have h2 := mOps_len S ops
  have h1 : ops.length ≤ 80 := h1
  omega
theorem mV_eq (hW : WW W) (v0 : VT W u c0) (v1 : VT W t c1) (hu : cRef u = 1) (ht : cRef t = 1) : (mV t c1 = mV u c0) ↔ c1 = c0 := by
  have a1 := hW.1.1
  have a2 := hW.1.2.1
  have eu := cRef_n hu
  have et := cRef_n ht
  constructor
  · intro h
    by_cases z0 : c0 = 0
    · rw [z0, mV_0] at h
      rw [z0]; exact (mV_z hW v1).mp h
    · by_cases z1 : c1 = 0
      · rw [z1, mV_0] at h
        exact absurd ((mV_z hW v0).mp h.symm) z0
      · rcases VT_ref v0 hu z0 with ⟨v, k, h1, rfl, -⟩ | ⟨n, k, h1, rfl, -⟩ <;> rcases VT_ref v1 ht z1 with ⟨v', k', h1', rfl, -⟩ | ⟨n', k', h1', rfl, -⟩
        · rw [mV_veh (by omega), mV_veh (by omega)] at h
          unfold rfV; exact h
        · rw [mV_veh (by omega), mV_r1 ht (by omega), i_eq (by omega) (by omega)] at h; omega
        · rw [mV_veh (by omega), mV_r1 hu (by omega), i_eq (by omega) (by omega)] at h; omega
        · rw [mV_r1 hu (by omega), mV_r1 ht (by omega), i_eq (by omega) (by omega)] at h
          rw [show n' = n by omega]
  · intro h
    rw [h, mV_ref et.1 et.2, mV_ref eu.1 eu.2]
theorem mV_rw (hW : WW W) (hv : VT W t c) (ht : ¬ t < 18 ∧ t < 36) (hc : c ≠ 0) : ixR c < (w_r W).length ∧ mV t c = Int32.ofNat (1001 + ixR c) := by
  obtain ⟨n, k, n1, rfl, -⟩ := VT_r hv ht.1 ht.2 hc
  have a1 := hW.1.2.1
  rw [ixR_rf (by omega)]
  exact ⟨n1, mV_r1 (row_n ht).2.2.1 (by omega)⟩
theorem mV_vh (hW : WW W) (hv : VT W t c) (ht : t < 18) (hc : c ≠ 0) : ixV c < (w_v W).length ∧ mV t c = rfV (ixV c) := by
  obtain ⟨n, k, n1, rfl, -⟩ := VT_v hv ht hc
  have a1 := hW.1.1
  rw [ixV_rf (by omega)]
  exact ⟨n1, mV_veh (by omega)⟩
theorem hasPl_i {len : Nat} (hl : len ≤ 40) (h : ¬ c < 0) : (c < Int32.ofNat len) ↔ c.toNatClampNeg < len := by
  rw [Int32.lt_iff_toInt_lt, Int32.toInt_ofNat_of_lt (by omega)]
  have z' : ¬ c.toInt < 0 := fun w => h (Int32.lt_iff_toInt_lt.mpr w)
  have : c.toNatClampNeg = c.toInt.toNat := rfl
  omega
theorem hasPl_n (h : hasPl W n c) (hl : (rowAt W n).2.length ≤ 40) : ∃ i, i < (rowAt W n).2.length ∧ c = Int32.ofNat i ∧ c.toNatClampNeg = i := by
  obtain ⟨i, h1, h2⟩ := i32_nat (n := (rowAt W n).2.length) (by omega) h.1 ((hasPl_i hl h.1).mpr h.2)
  exact ⟨i, h1, h2, by rw [h2, i_tn (by omega)]⟩
theorem j_4 (hm : MC x W q0 (q, pc, nm, ops) r (4, arg, tgt, pl, ty, g)) (h : MG x mi W g.2.1 nm (mOps g.1 ops) g.2.2.2 q r (Int32.ofNat (pos vM x.1 pc + 1)) fu σ) : ∃ σ', sm_callM X true (d + 12) 261 [vP (23, 0), vI 0, vI arg, vI (Int32.ofNat (pos vM x.1 pc))] σ = rV σ' ∧ MO x mi q0 (actM x W (q, pc, nm, ops) r fu (4, arg, tgt, pl, ty, g)) σ' := by
  obtain ⟨t, -, -⟩ := MC_t hm
  obtain ⟨σ1, e1, h1⟩ := m_push (X := X) (d := d + 10) (c := arg) h (m_rm hm (mOps_80 hm))
  rw [mA_0, e1, bV_r]
  refine ⟨σ1, rfl, MO_go hm rfl rfl (by simp) ?_ h1⟩
  show arg :: mOps g.1 ops = mOps (ty :: g.1) (arg :: ops)
  rcases t with t | ⟨t, t'⟩
  · have t : ty = 36 := t
    rw [t, mOps_c (by decide), mV_i rfl]
  · have t : ty = 37 := t
    have t' : arg = 0 := t'
    rw [t, t', mOps_c (by decide), mV_0]
theorem j_5 (hm : MC x W q0 (q, pc, nm, ops) r (5, arg, tgt, pl, ty, g)) (h : MG x mi W g.2.1 nm (mOps g.1 ops) g.2.2.2 q r (Int32.ofNat (pos vM x.1 pc + 1)) fu σ) : ∃ σ', sm_callM X true (d + 12) 261 [vP (23, 0), vI 1, vI arg, vI (Int32.ofNat (pos vM x.1 pc))] σ = rV σ' ∧ MO x mi q0 (actM x W (q, pc, nm, ops) r fu (5, arg, tgt, pl, ty, g)) σ' := by
  obtain ⟨⟨k, t1, t2⟩, -, -⟩ := MC_t hm
  have t1 : arg = Int32.ofNat k := t1
  have t2 : (k, ty) ∈ g.2.1 := t2
  have hty : ty ≠ 38 := hm.1.2.2.2.2.2.2.2.2 _ (List.mem_of_getElem? hm.2.2.2.1) rfl
  obtain ⟨n24, f1, f2⟩ := mk_name (z := (k, ty)) h t2
  have n24 : k < 24 := n24
  have hr : r.length ≤ 14 := h.2.2.2.2.2.2.2.2.2.2.2.2
  obtain ⟨σ1, e1, h1⟩ := m_push (X := X) (d := d + 10) (c := mV ty (nm k)) h (m_rm hm (mOps_80 hm))
  rw [mA_1, t1, f1, ix_nat (by show 24 * r.length + k < 360; omega) (by omega), f2, e1, bV_r]
  rw [t1] at hm
  refine ⟨σ1, rfl, MO_go hm rfl rfl (by simp) ?_ h1⟩
  show mV ty (nm k) :: mOps g.1 ops = mOps (ty :: g.1) (nm (Int32.ofNat k).toNatClampNeg :: ops)
  rw [i_tn (by omega), mOps_c hty]
theorem j_6 (hm : MC x W q0 (q, pc, nm, ops) r (6, arg, tgt, pl, ty, g)) (h : MG x mi W g.2.1 nm (mOps g.1 ops) g.2.2.2 q r (Int32.ofNat (pos vM x.1 pc + 1)) fu σ) : ∃ σ', sm_callM X true (d + 12) 261 [vP (23, 0), vI 2, vI arg, vI (Int32.ofNat (pos vM x.1 pc))] σ = rV σ' ∧ MO x mi q0 (actM x W (q, pc, nm, ops) r fu (6, arg, tgt, pl, ty, g)) σ' := by
  obtain ⟨⟨⟨t, S, t1, t2⟩, k, t3, t4⟩, -, hW⟩ := MC_t hm
  have t1 : g.1 = t :: S := t1
  have t2 : cFit t ty = 1 := t2
  have t4 : arg = Int32.ofNat k := t4
  obtain ⟨c, rest, rfl, v1, v2⟩ := ops1 hm t1
  obtain ⟨q1, q2, q3⟩ := mV_fit t2
  rw [t1, mOps_c q1] at h
  have hr : r.length ≤ 14 := h.2.2.2.2.2.2.2.2.2.2.2.2
  obtain ⟨σ1, e1, h1⟩ := m_pop (X := X) (d := d + 10) h
  rw [mA_2, e1, bI_r, t4, m_dep h, ix_nat (by omega) (by omega)]
  have h2 := m_setName (n := k) (t := ty) (c := c) h1 t3
  rw [← q3] at h2
  obtain ⟨hx, -, hF, hi, -, -⟩ := hm
  have hL := (wt_ok hx hi).2.1 rfl
  have hL : Lands x.1 none (pc + 1) (g.1.drop 1, gSet arg.toNatClampNeg ty g.2.1, g.2.2) := hL
  rw [t4, i_tn (by omega), t1] at hL
  obtain ⟨e', l1, l2, l3, l4, l5, l6⟩ := Lands_0 hL
  have l3 : (i_g e').1 = S := l3
  have l6 : i_h e' = g.2.2.2 := l6
  refine ⟨_, rfl, (q, pc + 1, fset nm k c, rest), r, e', ?_, l1, ?_⟩
  · show ((q, pc + 1, fset nm (Int32.ofNat k).toNatClampNeg c, rest) :: r : List zFr) = _
    rw [i_tn (by omega)]
  · show MG x mi W (i_g e').2.1 (fset nm k c) (mOps (i_g e').1 rest) (i_h e') q r (Int32.ofNat (pos vM x.1 (pc + 1))) fu _
    rw [pos_s hi, if_pos (show vM (6, arg, tgt, pl, ty, g).1 = true from rfl), l3, l6]
    exact MG_k (fun y hy => l4 y hy) h2
/-- an item with two ints that gives an int -/
theorem fin2 {op : Nat} (hm : MC x W q0 (q, pc, nm, c0 :: c1 :: ops) r (op, arg, tgt, pl, ty, g)) (hop : vM op = true ∧ falls op = true ∧ (op ≠ 6 ∧ op ≠ 2 ∧ op ≠ 33 ∧ op ≠ 34) ∧ zPush op = true ∧ zPops x.2.2 op arg = 2) (hg : g.1 = u :: t :: S) (hty : ty = 36) (h : MG x mi W g.2.1 nm (v :: mOps S ops) g.2.2.2 q r (Int32.ofNat (pos vM x.1 pc + 1)) fu σ) : MO x mi q0 (goM W (q, pc, nm, c0 :: c1 :: ops) r fu (v :: ops)) σ := by
  refine MO_go hm hop.1 hop.2.1 hop.2.2.1 ?_ h
  show v :: mOps S ops = mOps (effS x.2.2 op arg ty g.1) (v :: ops)
  unfold effS
  rw [hop.2.2.2.1, hop.2.2.2.2, hg, hty]
  show _ = mOps (36 :: S) (v :: ops)
  rw [mOps_c (by decide), mV_i rfl]
theorem j_7 (hm : MC x W q0 (q, pc, nm, ops) r (7, arg, tgt, pl, ty, g)) (h : MG x mi W g.2.1 nm (mOps g.1 ops) g.2.2.2 q r (Int32.ofNat (pos vM x.1 pc + 1)) fu σ) : ∃ σ', sm_callM X true (d + 12) 261 [vP (23, 0), vI 10, vI arg, vI (Int32.ofNat (pos vM x.1 pc))] σ = rV σ' ∧ MO x mi q0 (actM x W (q, pc, nm, ops) r fu (7, arg, tgt, pl, ty, g)) σ' := by
  obtain ⟨⟨S, t1, t2⟩, -, -⟩ := MC_t hm
  obtain ⟨c0, c1, r2, rfl, -, -, -⟩ := ops2 hm t1
  have t1 : g.1 = 36 :: 36 :: S := t1
  rw [t1, mOps_c (by decide), mOps_c (by decide), mV_i rfl, mV_i rfl] at h
  have h80 : (mOps S r2).length ≤ 80 := by
    have := mOps_80 (S := S) hm
    have h3 := (room_m hm).2
    have h4 := mOps_len S r2
    have h3 : (c0 :: c1 :: r2).length ≤ 80 := h3
    rw [List.length_cons, List.length_cons] at h3; omega
  obtain ⟨σ1, e1, h1⟩ := m_sg10 (X := X) (d := d + 9) h (m_rm hm h80)
  rw [mA_10, e1, bV_r]
  exact ⟨σ1, rfl, fin2 hm ⟨rfl, rfl, by simp, rfl, rfl⟩ t1 t2 h1⟩
theorem r2_80 (hm : MC x W q0 (q, pc, nm, c0 :: ops) r e) : (mOps S ops).length ≤ 80 := by
  have h3 := (room_m hm).2
  have h4 := mOps_len S ops
  have h3 : (c0 :: ops).length ≤ 80 := h3
  rw [List.length_cons] at h3; omega
theorem r3_80 (hm : MC x W q0 (q, pc, nm, c0 :: c1 :: ops) r e) : (mOps S ops).length ≤ 80 := by
  have h3 := (room_m hm).2
  have h4 := mOps_len S ops
  have h3 : (c0 :: c1 :: ops).length ≤ 80 := h3
  rw [List.length_cons, List.length_cons] at h3; omega
theorem j_8 (hm : MC x W q0 (q, pc, nm, ops) r (8, arg, tgt, pl, ty, g)) (h : MG x mi W g.2.1 nm (mOps g.1 ops) g.2.2.2 q r (Int32.ofNat (pos vM x.1 pc + 1)) fu σ) : ∃ σ', sm_callM X true (d + 12) 261 [vP (23, 0), vI 11, vI arg, vI (Int32.ofNat (pos vM x.1 pc))] σ = rV σ' ∧ MO x mi q0 (actM x W (q, pc, nm, ops) r fu (8, arg, tgt, pl, ty, g)) σ' := by
  obtain ⟨⟨S, t1, t2⟩, -, -⟩ := MC_t hm
  obtain ⟨c0, c1, r2, rfl, -, -, -⟩ := ops2 hm t1
  have t1 : g.1 = 36 :: 36 :: S := t1
  rw [t1, mOps_c (by decide), mOps_c (by decide), mV_i rfl, mV_i rfl] at h
  obtain ⟨σ1, e1, h1⟩ := m_sg11 (X := X) (d := d + 9) h (m_rm hm (r3_80 hm))
  rw [mA_11, e1, bV_r]
  exact ⟨σ1, rfl, fin2 hm ⟨rfl, rfl, by simp, rfl, rfl⟩ t1 t2 h1⟩
theorem j_9 (hm : MC x W q0 (q, pc, nm, ops) r (9, arg, tgt, pl, ty, g)) (h : MG x mi W g.2.1 nm (mOps g.1 ops) g.2.2.2 q r (Int32.ofNat (pos vM x.1 pc + 1)) fu σ) : ∃ σ', sm_callM X true (d + 12) 261 [vP (23, 0), vI 12, vI arg, vI (Int32.ofNat (pos vM x.1 pc))] σ = rV σ' ∧ MO x mi q0 (actM x W (q, pc, nm, ops) r fu (9, arg, tgt, pl, ty, g)) σ' := by
  obtain ⟨⟨S, t1, t2⟩, -, -⟩ := MC_t hm
  obtain ⟨c0, c1, r2, rfl, -, -, -⟩ := ops2 hm t1
  have t1 : g.1 = 36 :: 36 :: S := t1
  rw [t1, mOps_c (by decide), mOps_c (by decide), mV_i rfl, mV_i rfl] at h
  obtain ⟨σ1, e1, h1⟩ := m_sg12 (X := X) (d := d + 9) h (m_rm hm (r3_80 hm))
  rw [mA_12, e1, bV_r]
  exact ⟨σ1, rfl, fin2 hm ⟨rfl, rfl, by simp, rfl, rfl⟩ t1 t2 h1⟩
theorem j_12 (hm : MC x W q0 (q, pc, nm, ops) r (12, arg, tgt, pl, ty, g)) (h : MG x mi W g.2.1 nm (mOps g.1 ops) g.2.2.2 q r (Int32.ofNat (pos vM x.1 pc + 1)) fu σ) : ∃ σ', sm_callM X true (d + 12) 261 [vP (23, 0), vI 15, vI arg, vI (Int32.ofNat (pos vM x.1 pc))] σ = rV σ' ∧ MO x mi q0 (actM x W (q, pc, nm, ops) r fu (12, arg, tgt, pl, ty, g)) σ' := by
  obtain ⟨⟨S, t1, t2⟩, -, -⟩ := MC_t hm
  obtain ⟨c0, c1, r2, rfl, -, -, -⟩ := ops2 hm t1
  have t1 : g.1 = 36 :: 36 :: S := t1
  rw [t1, mOps_c (by decide), mOps_c (by decide), mV_i rfl, mV_i rfl] at h
  obtain ⟨σ1, e1, h1⟩ := m_sg15 (X := X) (d := d + 9) h (m_rm hm (r3_80 hm))
  rw [mA_15, e1, bV_r]
  exact ⟨σ1, rfl, fin2 hm ⟨rfl, rfl, by simp, rfl, rfl⟩ t1 t2 h1⟩
theorem eq_ty (hW : WW W) (v0 : VT W u c0) (v1 : VT W t c1) (h : (t = 36 ∧ u = 36) ∨ (cRef t = 1 ∧ cRef u = 1)) : t ≠ 38 ∧ u ≠ 38 ∧ ((mV t c1 = mV u c0) ↔ c1 = c0) := by
  rcases h with ⟨h1, h2⟩ | ⟨h1, h2⟩
  · rw [h1, h2]; exact ⟨by decide, by decide, Iff.rfl⟩
  · exact ⟨(cRef_n h1).2, (cRef_n h2).2, mV_eq hW v0 v1 h2 h1⟩
theorem j_10 (hm : MC x W q0 (q, pc, nm, ops) r (10, arg, tgt, pl, ty, g)) (h : MG x mi W g.2.1 nm (mOps g.1 ops) g.2.2.2 q r (Int32.ofNat (pos vM x.1 pc + 1)) fu σ) : ∃ σ', sm_callM X true (d + 12) 261 [vP (23, 0), vI 13, vI arg, vI (Int32.ofNat (pos vM x.1 pc))] σ = rV σ' ∧ MO x mi q0 (actM x W (q, pc, nm, ops) r fu (10, arg, tgt, pl, ty, g)) σ' := by
  obtain ⟨⟨u, t, S, t1, t0, t2⟩, -, hW⟩ := MC_t hm
  obtain ⟨c0, c1, r2, rfl, v0, v1, -⟩ := ops2 hm t1
  have t1 : g.1 = u :: t :: S := t1
  obtain ⟨q1, q2, q3⟩ := eq_ty hW v0 v1 t0
  rw [t1, mOps_c q2, mOps_c q1] at h
  obtain ⟨σ1, e1, h1⟩ := m_sg13 (X := X) (d := d + 9) h (m_rm hm (r3_80 hm))
  rw [mA_13, e1, bV_r]
  have e2 : (if mV t c1 = mV u c0 then (1 : Int32) else 0) = if c1 = c0 then 1 else 0 := by
    by_cases z : c1 = c0
    · rw [if_pos z, if_pos (q3.mpr z)]
    · rw [if_neg z, if_neg (fun y => z (q3.mp y))]
  rw [e2] at h1
  exact ⟨σ1, rfl, fin2 hm ⟨rfl, rfl, by simp, rfl, rfl⟩ t1 t2 h1⟩
theorem j_11 (hm : MC x W q0 (q, pc, nm, ops) r (11, arg, tgt, pl, ty, g)) (h : MG x mi W g.2.1 nm (mOps g.1 ops) g.2.2.2 q r (Int32.ofNat (pos vM x.1 pc + 1)) fu σ) : ∃ σ', sm_callM X true (d + 12) 261 [vP (23, 0), vI 14, vI arg, vI (Int32.ofNat (pos vM x.1 pc))] σ = rV σ' ∧ MO x mi q0 (actM x W (q, pc, nm, ops) r fu (11, arg, tgt, pl, ty, g)) σ' := by
  obtain ⟨⟨u, t, S, t1, t0, t2⟩, -, hW⟩ := MC_t hm
  obtain ⟨c0, c1, r2, rfl, v0, v1, -⟩ := ops2 hm t1
  have t1 : g.1 = u :: t :: S := t1
  obtain ⟨q1, q2, q3⟩ := eq_ty hW v0 v1 t0
  rw [t1, mOps_c q2, mOps_c q1] at h
  obtain ⟨σ1, e1, h1⟩ := m_sg14 (X := X) (d := d + 9) h (m_rm hm (r3_80 hm))
  rw [mA_14, e1, bV_r]
  have e2 : (if mV t c1 = mV u c0 then (0 : Int32) else 1) = if c1 = c0 then 0 else 1 := by
    by_cases z : c1 = c0
    · rw [if_pos z, if_pos (q3.mpr z)]
    · rw [if_neg z, if_neg (fun y => z (q3.mp y))]
  rw [e2] at h1
  exact ⟨σ1, rfl, fin2 hm ⟨rfl, rfl, by simp, rfl, rfl⟩ t1 t2 h1⟩
theorem j_13 (hm : MC x W q0 (q, pc, nm, ops) r (13, arg, tgt, pl, ty, g)) (h : MG x mi W g.2.1 nm (mOps g.1 ops) g.2.2.2 q r (Int32.ofNat (pos vM x.1 pc + 1)) fu σ) : ∃ σ', sm_callM X true (d + 12) 261 [vP (23, 0), vI 8, vI arg, vI (Int32.ofNat (pos vM x.1 pc))] σ = rV σ' ∧ MO x mi q0 (actM x W (q, pc, nm, ops) r fu (13, arg, tgt, pl, ty, g)) σ' := by
  obtain ⟨⟨t, S, t1, t2, t3, t4⟩, -, hW⟩ := MC_t hm
  obtain ⟨c0, r1, rfl, v0, -⟩ := ops1 hm t1
  have t1 : g.1 = t :: S := t1
  have t3 : ty = arg := t3
  obtain ⟨na, na1, na2⟩ := t4
  have na2 : arg = Int32.ofNat na := na2
  have hr := cAsk_ref t2
  have ht := cRef_n hr
  have ha : arg ≠ 36 ∧ arg ≠ 38 := by rw [na2]; exact cRef_n (cRef_k na na1)
  rw [t1, mOps_c ht.2] at h
  obtain ⟨e1, e2, e3⟩ := m_top h
  have e4 := m_isOf (X := X) (d := d + 6) (u := arg) hW h.1 v0 hr ⟨na, na1, na2⟩
  have e4 : sm_callM X true (d + 11) 248 [vP (23, 0), vI (mV t c0), vI arg] σ = _ := e4
  have hgo : MO x mi q0 (goM W (q, pc, nm, c0 :: r1) r fu (c0 :: r1)) σ := by
    refine MO_go hm rfl rfl (by simp) ?_ h
    show _ = mOps (ty :: g.1.drop 1) (c0 :: r1)
    rw [t1, t3, mOps_c ha.2, mV_ref ht.1 ht.2, mV_ref ha.1 ha.2]; rfl
  rw [mA_8, e1, ix_nat (by omega) (by omega), e2]
  show ∃ σ', _ = rV σ' ∧ MO x mi q0 (if c0 ≠ 0 ∧ ¬ cBel (tyOf W c0) arg = 1 then raiseM x.1 W _ fu _ 4 4 else goM W _ r fu (c0 :: r1)) σ'
  by_cases z : c0 = 0
  · rw [if_pos ((mV_z hW v0).mpr z), if_neg (show ¬ (c0 ≠ 0 ∧ ¬ cBel (tyOf W c0) arg = 1) from fun y => y.1 z)]
    exact ⟨σ, rfl, hgo⟩
  · rw [if_neg (fun y => z ((mV_z hW v0).mp y)), ix_nat (by omega) (by omega), e2, e4, bI_r]
    by_cases w : cBel (tyOf W c0) arg = 1
    · rw [if_pos (show c0 ≠ 0 ∧ cBel (tyOf W c0) arg = 1 from ⟨z, w⟩), if_neg (show ¬ (1 : Int32) = 0 by decide), if_neg (show ¬ (c0 ≠ 0 ∧ ¬ cBel (tyOf W c0) arg = 1) from fun y => y.2 w)]
      exact ⟨σ, rfl, hgo⟩
    · obtain ⟨σ1, f1, f2⟩ := m_fault (X := X) (d := d + 9) (why := 4) (own := 0) (v := 4) hm rfl h (by decide) (by rw [if_neg (by decide)])
      have f1 : sm_callM X true (d + 11) 256 [vP (23, 0), vI 4, vI 0, vI (Int32.ofNat (pos vM x.1 pc))] σ = rV σ1 := f1
      rw [if_neg (show ¬ (c0 ≠ 0 ∧ cBel (tyOf W c0) arg = 1) from fun y => w y.2), if_pos (show (0 : Int32) = 0 from rfl), f1, bV_r, if_pos (show c0 ≠ 0 ∧ ¬ cBel (tyOf W c0) arg = 1 from ⟨z, w⟩)]
      exact ⟨σ1, rfl, f2⟩
theorem j_14 (hm : MC x W q0 (q, pc, nm, ops) r (14, arg, tgt, pl, ty, g)) (h : MG x mi W g.2.1 nm (mOps g.1 ops) g.2.2.2 q r (Int32.ofNat (pos vM x.1 pc + 1)) fu σ) : ∃ σ', sm_callM X true (d + 12) 261 [vP (23, 0), vI 9, vI arg, vI (Int32.ofNat (pos vM x.1 pc))] σ = rV σ' ∧ MO x mi q0 (actM x W (q, pc, nm, ops) r fu (14, arg, tgt, pl, ty, g)) σ' := by
  obtain ⟨⟨t, S, t1, t2, t3, t4⟩, -, hW⟩ := MC_t hm
  obtain ⟨c0, r1, rfl, v0, -⟩ := ops1 hm t1
  have t1 : g.1 = t :: S := t1
  have t3 : ty = 36 := t3
  have hr := cAsk_ref t2
  have ht := cRef_n hr
  rw [t1, mOps_c ht.2] at h
  obtain ⟨σ1, e1, h1⟩ := m_pop (X := X) (d := d + 10) h
  have e4 := m_isOf (X := X) (d := d + 6) (u := arg) hW h1.1 v0 hr t4
  have e4 : sm_callM X true (d + 11) 248 [vP (23, 0), vI (mV t c0), vI arg] σ1 = _ := e4
  have fin : ∀ (b : Int32) (τ : sm_S), MG x mi W g.2.1 nm (b :: mOps S r1) g.2.2.2 q r (Int32.ofNat (pos vM x.1 pc + 1)) fu τ → MO x mi q0 (goM W (q, pc, nm, c0 :: r1) r fu (b :: r1)) τ := fun b τ hG => by
    refine MO_go hm rfl rfl (by simp) ?_ hG
    show _ = mOps (ty :: g.1.drop 1) (b :: r1)
    rw [t1, t3, mOps_c (by decide), mV_i rfl]; rfl
  rw [mA_9, e1, bI_r, e4, bI_r]
  show ∃ σ', _ = rV σ' ∧ MO x mi q0 (goM W _ r fu ((if c0 ≠ 0 ∧ cBel (tyOf W c0) arg = 1 then 1 else 0) :: r1)) σ'
  by_cases w : c0 ≠ 0 ∧ cBel (tyOf W c0) arg = 1
  · obtain ⟨σ2, e5, h2⟩ := m_push (X := X) (d := d + 10) (c := 1) h1 (m_rm hm (r2_80 hm))
    rw [if_pos w, if_neg (show ¬ (1 : Int32) = 0 by decide), e5, bV_r]
    exact ⟨σ2, rfl, fin _ _ h2⟩
  · obtain ⟨σ2, e5, h2⟩ := m_push (X := X) (d := d + 10) (c := 0) h1 (m_rm hm (r2_80 hm))
    rw [if_neg w, if_pos (show (0 : Int32) = 0 from rfl), e5, bV_r]
    exact ⟨σ2, rfl, fin _ _ h2⟩
end
