section
variable {E : sm_G} {X : Nat × (Nat → Int32)} {w : Bool} {p : Program} {l : Launch} {e : Env} {R : Room} {s : State} {m : MethodId} {args : Array Value} {below : List Frame} {meth : Method} {c : Code} {mn : Nat} {C : sm_C} {r : sm_O × sm_S} {c0 s0 : Nat} {Q : State → Prop} {n pc : Nat} {a : Nat × Nat × Nat × Nat} {L S : List sm_V} {σ : sm_S} {hx : sm_S → sm_R} {H : Heap} {locs : List Loc} {ls : Array Slot}
theorem sm_ycls : (List.range 308).all (fun k => decide ((sm_y k).cls ≠ "java/lang/invoke/MethodHandle" ∧ (sm_y k).cls ≠ "java/lang/invoke/VarHandle")) = true := by decide +kernel
theorem sm_yini : (List.range 308).all (fun k => bif sm_kn k == 2 then decide ((sm_y k).name = "<init>") else true) = true := by decide +kernel
theorem sm_hx_mo (hC : ∀ m a s o t, C m a s = some (o, t) → sm_mo s t) (h : sm_hx sm_PP mn pc (sm_run (sm_ZZ X) sm_PP w C mn n) L σ = some r) : sm_mo σ r.2 := by
  unfold sm_hx at h
  split at h
  · cases h; exact mo_eq rfl
  · exact sm_run_mo hC n (o := r.1) (s := r.2) h
theorem sm_st_app (As S' : List sm_V) : sm_st E σ (As.reverse ++ S') = (As.map (sm_rv E (sm_ad σ))).reverse ++ sm_st E σ S' := by
  show (As.reverse ++ S').map _ = _
  rw [List.map_append, List.map_reverse]
theorem sm_fin_mo (hC : ∀ m a s o t, C m a s = some (o, t) → sm_mo s t) {o : sm_O} {σ' : sm_S} {S' : List sm_V} (h1 : ∀ v, o = some v → sm_run (sm_ZZ X) sm_PP w C mn n (pc + 3) L (v.toList ++ S') σ' = some r) (h2 : o = none → sm_hx sm_PP mn pc (sm_run (sm_ZZ X) sm_PP w C mn n) L σ' = some r) : sm_mo σ' r.2 := by
  rcases o with _ | v
  · exact sm_hx_mo hC (h2 rfl)
  · exact sm_run_mo hC n (o := r.1) (s := r.2) (h1 v rfl)
set_option maxHeartbeats 1000000 in
theorem sm_s_stat (cx : sm_Cx E X p s m args meth c mn) (K : sm_K E X w p l e R s m args below meth c mn C r c0 s0 (sm_QE E w s below r c0 s0) n) {fr lo : Nat} (hM : sm_Met l E X w C fr lo) (hR : fr + 1 ≤ R.frames ∧ lo + 60 ≤ R.locals) (hC : ∀ m a s o t, C m a s = some (o, t) → sm_mo s t) (hCk : ∀ k As σ r, C k As σ = some r → k < 308) (hr : sm_cells r.2 ≤ c0 + R.cells ∧ sm_slots r.2 ≤ s0 + R.slots)
    {i : Nat} (hne : a.2.2.2 ≠ 1000) (hd : decode (sm_bc mn) pc = .ok (.invokestatic i, 3)) (hok : sm_okA mn (.invokestatic i) a pc = true)
    (h : sm_I (sm_ZZ X) w C (.invokestatic i) a pc (sm_run (sm_ZZ X) sm_PP w C mn n (pc + 3)) (sm_run (sm_ZZ X) sm_PP w C mn n) (sm_hx sm_PP mn pc (sm_run (sm_ZZ X) sm_PP w C mn n) L) L S σ = some r) (hH : sm_HR E w σ H) (hL : sm_LR E σ (sm_nl mn) L ls) (hS : sm_SR σ S) (hl : ∀ q ∈ locs, E.1 ≤ q.base) (hc : c0 ≤ sm_cells σ) (hs : s0 ≤ sm_slots σ) :
    W p l e R s m args below meth c H locs (sm_cells σ - c0) (sm_slots σ - s0) (sm_QE E w s below r c0 s0) (F0 m pc ls (sm_st E σ S)) := by
  have cx0 := cx
  obtain ⟨hex, hb, hml, hown, hts, hEF, -⟩ := cx
  simp only [sm_I] at h
  obtain ⟨As, S', o, σ', rfl, h2, h3, h4, -, h6, h7⟩ := sm_cl_s h
  have hk := hCk _ _ _ _ h4
  have hok : (a.1 == 9999 || bif a.2.2.2 == 1000 then sm_has4 sm_ml (sm_ow mn) i 1000 && (decide (30 ≤ a.1) && (decide (a.1 < 97) && (sm_ak a.1 == (0, a.2.1) && !(a.2.1 == 0)))) else sm_has4 sm_ml (sm_ow mn) i a.1 && (decide (a.1 < 308) && (sm_kn a.1 == 1 && (a.2.2.2 == 0 && ((parseMethodDescriptor (sm_y a.1).desc).map (fun d => d.parameters.length) == some a.2.1 && sm_okA.sm_okR a.2.2.1 (sm_re a.1)))))) = true := hok
  rw [sm_bne hne, sm_bne (show a.1 ≠ 9999 by omega)] at hok
  simp only [Bool.false_or, cond_false, Bool.and_eq_true, beq_iff_eq, decide_eq_true_eq] at hok
  obtain ⟨g1, -, g3, -, g5, -⟩ := hok
  obtain ⟨mk, methM, cM, kP, f1, f2, f3, f4, f5, f6, f7⟩ := sm_meth (args := args) (s := s) hk hts
  have hst : (Cond.static (sm_y a.1)).before args s = true := by
    have q := of_decide_eq_true (List.all_eq_true.mp sm_ps_in a.1 (List.mem_range.mpr hk))
    rw [show (sm_kn a.1 == 1) = true by rw [g3]; rfl] at q
    exact hts _ (sm_wrd q rfl)
  have hml2 : sm_my a.1 = sm_y a.1 := by
    unfold sm_my
    split <;> first | omega | rfl
  have hlink : (Cond.methodLink (sm_cn (sm_ow mn)) i (sm_y a.1)).before args s = true := by rw [← hml2]; exact hts _ (sm_ml_w g1)
  have hA : sm_SR σ As := fun v hv => hS v (List.mem_append_left _ (List.mem_reverse.mpr hv))
  have hS' : sm_SR σ S' := fun v hv => hS v (List.mem_append_right _ hv)
  intro T hT Y
  obtain ⟨vm', Y', step⟩ := Y.invokestatic hex hown hlink f1 f2 (Cond.static_spec f1 f2 hst) f5 f6 (of_decide_eq_true (List.all_eq_true.mp sm_ycls a.1 (List.mem_range.mpr hk))) (g := F0 m pc ls (sm_st E σ (As.reverse ++ S'))) rfl (argsL := As.map (sm_rv E (sm_ad σ))) (rest := sm_st E σ S') (by
    rw [f7] at g5
    simp only [Option.map_some, Option.some.injEq] at g5
    rw [List.length_map, h2, ← g5]) (sm_st_app As S') (by rw [hb]; exact hd)
  have hmf := sm_fin_mo hC h6 h7
  obtain ⟨t2, st2, hq2⟩ := sm_after cx0 K hM hR hC Y' (show (T.setVm vm').heap = H from hT) hH hL hl hc hs hk hA hS' h3 h4 ⟨Nat.le_trans hmf.1.1 hr.1, Nat.le_trans hmf.1.2 hr.2⟩ f1 hd h6 h7
  exact ⟨t2, step t2 (fun acts => by rw [doInvoke_state]; exact st2), hq2⟩
set_option maxHeartbeats 1000000 in
theorem sm_s_virt (cx : sm_Cx E X p s m args meth c mn) (K : sm_K E X w p l e R s m args below meth c mn C r c0 s0 (sm_QE E w s below r c0 s0) n) {fr lo : Nat} (hM : sm_Met l E X w C fr lo) (hR : fr + 1 ≤ R.frames ∧ lo + 60 ≤ R.locals) (hC : ∀ m a s o t, C m a s = some (o, t) → sm_mo s t) (hCk : ∀ k As σ r, C k As σ = some r → k < 308) (hr : sm_cells r.2 ≤ c0 + R.cells ∧ sm_slots r.2 ≤ s0 + R.slots)
    {i : Nat} (hd : decode (sm_bc mn) pc = .ok (.invokevirtual i, 3)) (hok : sm_okA mn (.invokevirtual i) a pc = true)
    (h : sm_I (sm_ZZ X) w C (.invokevirtual i) a pc (sm_run (sm_ZZ X) sm_PP w C mn n (pc + 3)) (sm_run (sm_ZZ X) sm_PP w C mn n) (sm_hx sm_PP mn pc (sm_run (sm_ZZ X) sm_PP w C mn n) L) L S σ = some r) (hH : sm_HR E w σ H) (hL : sm_LR E σ (sm_nl mn) L ls) (hS : sm_SR σ S) (hl : ∀ q ∈ locs, E.1 ≤ q.base) (hc : c0 ≤ sm_cells σ) (hs : s0 ≤ sm_slots σ) :
    W p l e R s m args below meth c H locs (sm_cells σ - c0) (sm_slots σ - s0) (sm_QE E w s below r c0 s0) (F0 m pc ls (sm_st E σ S)) := by
  have cx0 := cx
  obtain ⟨hex, hb, hml, hown, hts, hEF, -⟩ := cx
  simp only [sm_I] at h
  obtain ⟨As, S', o, σ', rfl, h2, h3, h4, h5, h6, h7⟩ := sm_cl_s h
  have hk := hCk _ _ _ _ h4
  have hok : (a.1 == 9999 || sm_has4 sm_ml (sm_ow mn) i a.1 && (decide (a.1 < 308) && (sm_kn a.1 == 0 && ((a.2.2.2 == 5 && (sm_y a.1).cls == "java/lang/String" || (decide (10 ≤ a.2.2.2) && (decide (a.2.2.2 < 24) && (sm_y a.1).cls == sm_cR a.2.2.2))) && ((parseMethodDescriptor (sm_y a.1).desc).map (fun d => d.parameters.length + 1) == some a.2.1 && sm_okA.sm_okR a.2.2.1 (sm_re a.1)))))) = true := hok
  rw [sm_bne (show a.1 ≠ 9999 by omega)] at hok
  simp only [Bool.false_or, Bool.and_eq_true, Bool.or_eq_true, beq_iff_eq, decide_eq_true_eq] at hok
  obtain ⟨g1, -, g3, g4, g5, -⟩ := hok
  obtain ⟨j, As, rfl⟩ := h5 (by rcases g4 with q | q <;> omega)
  obtain ⟨mk, methM, cM, kP, f1, f2, f3, f4, f5, f6, f7⟩ := sm_meth (args := args) (s := s) hk hts
  have hin : (Cond.instanceMethod (sm_y a.1)).before args s = true := by
    have q := of_decide_eq_true (List.all_eq_true.mp sm_ps_in a.1 (List.mem_range.mpr hk))
    rw [show (sm_kn a.1 == 1) = false by rw [g3]; rfl] at q
    exact hts _ (sm_wrd q rfl)
  have hse : (Cond.selects (sm_y a.1).cls (sm_y a.1) (sm_y a.1)).before args s = true := by
    have q := List.all_eq_true.mp sm_pn_in a.1 (List.mem_range.mpr hk)
    rw [show (sm_kn a.1 == 0) = true by rw [g3]; rfl] at q
    exact hts _ (sm_wrd (of_decide_eq_true q) rfl)
  have hml2 : sm_my a.1 = sm_y a.1 := by
    unfold sm_my
    split <;> first | omega | rfl
  have hlink : (Cond.methodLink (sm_cn (sm_ow mn)) i (sm_y a.1)).before args s = true := by rw [← hml2]; exact hts _ (sm_ml_w g1)
  have hA : sm_SR σ (vP (a.2.2.2, j) :: As) := fun v hv => hS v (List.mem_append_left _ (List.mem_reverse.mpr hv))
  have hS' : sm_SR σ S' := fun v hv => hS v (List.mem_append_right _ hv)
  have hj : sm_okp (sm_cnt σ) (a.2.2.2, j) := hA (vP (a.2.2.2, j)) List.mem_cons_self
  obtain ⟨b, cell, hb1, hb2, hb3, hb4⟩ : ∃ (b : Nat) (cell : Cell), sm_rp E (sm_ad σ) (a.2.2.2, j) = some b ∧ H[b]? = some cell ∧ cell.vm.isStatics = false ∧ s.vm.findClass (sm_y a.1).cls = some cell.cls := by
    rcases g4 with ⟨q1, q2⟩ | ⟨q1, q2, q3⟩
    · rw [q1] at hj ⊢
      have hj5 := sm_okp_5 (Or.inl rfl) hj
      obtain ⟨cell, z1, z2, z3, z4⟩ := (hEF.2.2.1.1 j hj5).1
      exact ⟨E.2.2.1 j, cell, rfl, by rw [sm_low hH z4]; exact z1, z2, by rw [q2]; exact z3⟩
    · have hji := sm_okp_big q1 hj
      obtain ⟨cell, z1, z2, z3, z4⟩ := hH.obj q1 q2 hji
      obtain ⟨-, hfc, -⟩ := hEF.1 a.2.2.2 q1 q2
      exact ⟨_, cell, sm_rp_big q1, z1, by rw [z3]; rfl, by rw [q3, z2]; exact hfc⟩
  obtain ⟨mk2, methM2, i1, i2, i3, i4⟩ := Cond.instanceMethod_spec hin
  cases f1.symm.trans i1
  cases f2.symm.trans i2
  have hy := of_decide_eq_true (List.all_eq_true.mp sm_ycls a.1 (List.mem_range.mpr hk))
  obtain ⟨c2, r2, m2, q1, q2, q3, q4, kP2, hkP2, hkPi⟩ := Cond.selects_spec hse
  cases hb4.symm.trans q1
  cases (State.methodFound?_of_named f1 hy).symm.trans q2
  cases f1.symm.trans q3
  intro T hT Y
  have hselP : selectMethod e.platform s.vm cell.cls mk = .method mk := by rw [Launch.admits_selectMethod Y.admits]; exact q4
  have est : sm_st E σ ((vP (a.2.2.2, j) :: As).reverse ++ S') = (As.map (sm_rv E (sm_ad σ))).reverse ++ .ref b :: sm_st E σ S' := by
    rw [sm_st_app]
    show (va_rf (sm_rp E (sm_ad σ) (a.2.2.2, j)) :: As.map (sm_rv E (sm_ad σ))).reverse ++ _ = _
    rw [hb1]
    simp [va_rf]
  have ear : (Value.ref b :: As.map (sm_rv E (sm_ad σ))) = (vP (a.2.2.2, j) :: As).map (sm_rv E (sm_ad σ)) := by
    show _ = va_rf (sm_rp E (sm_ad σ) (a.2.2.2, j)) :: As.map (sm_rv E (sm_ad σ))
    rw [hb1]; rfl
  obtain ⟨vm', Y', step⟩ := Y.invokevirtual hex hown hlink f1 f2 i3 hkP2 hkPi hy (a := b) (cell := cell) (by rw [hT]; exact hb2) (fun z h => by rw [h] at hb3; cases hb3) hselP f2 i4 hkP2 hkPi (g := F0 m pc ls (sm_st E σ ((vP (a.2.2.2, j) :: As).reverse ++ S'))) rfl (argsL := As.map (sm_rv E (sm_ad σ))) (rest := sm_st E σ S') (by
    rw [f7] at g5
    simp only [Option.map_some, Option.some.injEq, List.length_cons] at g5 h2
    rw [List.length_map]; omega) est (by rw [hb]; exact hd)
  have hmf := sm_fin_mo hC h6 h7
  obtain ⟨t2, st2, hq2⟩ := sm_after cx0 K hM hR hC Y' (show (T.setVm vm').heap = H from hT) hH hL hl hc hs hk hA hS' h3 h4 ⟨Nat.le_trans hmf.1.1 hr.1, Nat.le_trans hmf.1.2 hr.2⟩ f1 hd h6 h7
  exact ⟨t2, step t2 (fun acts => by rw [doInvoke_state, ear]; exact st2), hq2⟩
set_option maxHeartbeats 1000000 in
theorem sm_s_spec (cx : sm_Cx E X p s m args meth c mn) (K : sm_K E X w p l e R s m args below meth c mn C r c0 s0 (sm_QE E w s below r c0 s0) n) {fr lo : Nat} (hM : sm_Met l E X w C fr lo) (hR : fr + 1 ≤ R.frames ∧ lo + 60 ≤ R.locals) (hC : ∀ m a s o t, C m a s = some (o, t) → sm_mo s t) (hCk : ∀ k As σ r, C k As σ = some r → k < 308) (hr : sm_cells r.2 ≤ c0 + R.cells ∧ sm_slots r.2 ≤ s0 + R.slots)
    {i : Nat} (hn1 : a.2.2.2 ≠ 1001) (hn2 : a.2.2.2 ≠ 1002) (hd : decode (sm_bc mn) pc = .ok (.invokespecial i, 3)) (hok : sm_okA mn (.invokespecial i) a pc = true)
    (h : sm_I (sm_ZZ X) w C (.invokespecial i) a pc (sm_run (sm_ZZ X) sm_PP w C mn n (pc + 3)) (sm_run (sm_ZZ X) sm_PP w C mn n) (sm_hx sm_PP mn pc (sm_run (sm_ZZ X) sm_PP w C mn n) L) L S σ = some r) (hH : sm_HR E w σ H) (hL : sm_LR E σ (sm_nl mn) L ls) (hS : sm_SR σ S) (hl : ∀ q ∈ locs, E.1 ≤ q.base) (hc : c0 ≤ sm_cells σ) (hs : s0 ≤ sm_slots σ) :
    W p l e R s m args below meth c H locs (sm_cells σ - c0) (sm_slots σ - s0) (sm_QE E w s below r c0 s0) (F0 m pc ls (sm_st E σ S)) := by
  have cx0 := cx
  obtain ⟨hex, hb, hml, hown, hts, hEF, -⟩ := cx
  simp only [sm_I] at h
  obtain ⟨As, S', o, σ', rfl, h2, h3, h4, h5, h6, h7⟩ := sm_cl_s h
  have hk := hCk _ _ _ _ h4
  have hok : (bif a.2.2.2 == 1001 then sm_has4 sm_ml (sm_ow mn) i 1001 else bif a.2.2.2 == 1002 then sm_has4 sm_ml (sm_ow mn) i 1002 else (sm_has4 sm_ml (sm_ow mn) i a.1 || sm_has4 sm_mn (sm_ow mn) i a.1) && (decide (a.1 < 308) && (sm_kn a.1 == 2 && ((decide (10 ≤ a.2.2.2) && (decide (a.2.2.2 < 24) && (sm_y a.1).cls == sm_cR a.2.2.2)) && ((parseMethodDescriptor (sm_y a.1).desc).map (fun d => d.parameters.length + 1) == some a.2.1 && (a.2.2.1 == 0 && decide (sm_re a.1 = none))))))) = true := hok
  rw [sm_bne hn1, sm_bne hn2] at hok
  simp only [cond_false, Bool.and_eq_true, Bool.or_eq_true, beq_iff_eq, decide_eq_true_eq] at hok
  obtain ⟨g1, -, g3, ⟨g4, g5, g6⟩, g7, -, g8⟩ := hok
  obtain ⟨j, As, rfl⟩ := h5 (by omega)
  have hin : (Cond.instanceMethod (sm_y a.1)).before args s = true := by
    have q := of_decide_eq_true (List.all_eq_true.mp sm_ps_in a.1 (List.mem_range.mpr hk))
    rw [show (sm_kn a.1 == 1) = false by rw [g3]; rfl] at q
    exact hts _ (sm_wrd q rfl)
  have hini : (sm_y a.1).name = "<init>" := by
    have q := List.all_eq_true.mp sm_yini a.1 (List.mem_range.mpr hk)
    rw [show (sm_kn a.1 == 2) = true by rw [g3]; rfl] at q
    exact of_decide_eq_true q
  have hml2 : sm_my a.1 = sm_y a.1 := by
    unfold sm_my
    split <;> first | omega | rfl
  have hld : a.1 ≠ sm_LOAD := by
    intro q
    rw [q] at g3
    exact absurd g3 (by decide)
  have hcode : (Cond.code (sm_y a.1) (sm_bc a.1) (sm_nl a.1) none).before args s = true := by
    have q := hts _ (sm_cww hk)
    unfold sm_cw at q
    rw [sm_bne hld, g8] at q
    exact q
  have hA : sm_SR σ (vP (a.2.2.2, j) :: As) := fun v hv => hS v (List.mem_append_left _ (List.mem_reverse.mpr hv))
  have hS' : sm_SR σ S' := fun v hv => hS v (List.mem_append_right _ hv)
  have hj : sm_okp (sm_cnt σ) (a.2.2.2, j) := hA (vP (a.2.2.2, j)) List.mem_cons_self
  have hb1 : sm_rp E (sm_ad σ) (a.2.2.2, j) = some (E.1 + sm_ad σ a.2.2.2 j) := sm_rp_big g4
  have est : sm_st E σ ((vP (a.2.2.2, j) :: As).reverse ++ S') = (As.map (sm_rv E (sm_ad σ))).reverse ++ .ref (E.1 + sm_ad σ a.2.2.2 j) :: sm_st E σ S' := by
    rw [sm_st_app]
    show (va_rf (sm_rp E (sm_ad σ) (a.2.2.2, j)) :: As.map (sm_rv E (sm_ad σ))).reverse ++ _ = _
    rw [hb1]
    simp [va_rf]
  have ear : (Value.ref (E.1 + sm_ad σ a.2.2.2 j) :: As.map (sm_rv E (sm_ad σ))) = (vP (a.2.2.2, j) :: As).map (sm_rv E (sm_ad σ)) := by
    show _ = va_rf (sm_rp E (sm_ad σ) (a.2.2.2, j)) :: As.map (sm_rv E (sm_ad σ))
    rw [hb1]; rfl
  have hy := of_decide_eq_true (List.all_eq_true.mp sm_ycls a.1 (List.mem_range.mpr hk))
  have hlen : ∀ sig, parseMethodDescriptor (sm_y a.1).desc = some sig → (As.map (sm_rv E (sm_ad σ))).length = sig.parameters.length := by
    intro sig hsig
    rw [hsig] at g7
    simp only [Option.map_some, Option.some.injEq, List.length_cons] at g7 h2
    rw [List.length_map]; omega
  intro T hT Y
  have hpl : e.platform.magicAccessors = ({} : Platform).magicAccessors := by rw [Y.admits.platform]
  have hmf := sm_fin_mo hC h6 h7
  rcases g1 with g1 | g1
  · have hlink : (Cond.methodLink (sm_cn (sm_ow mn)) i (sm_y a.1)).before args s = true := by rw [← hml2]; exact hts _ (sm_ml_w g1)
    obtain ⟨mk, methM, cM, kP, vm₁, f1, -, -, -, -, -, -, -, hW₁, step⟩ := Steps.initColdArgs (e := e) Y.here hex Y.warmed hpl hown hini hy hlink hin hcode (f := F0 m pc ls (sm_st E σ ((vP (a.2.2.2, j) :: As).reverse ++ S'))) rfl hlen est (by rw [hb]; exact hd)
    obtain ⟨t2, st2, hq2⟩ := sm_after cx0 K hM hR hC (Y.noted hW₁) (show (T.setVm vm₁).heap = H from hT) hH hL hl hc hs hk hA hS' h3 h4 ⟨Nat.le_trans hmf.1.1 hr.1, Nat.le_trans hmf.1.2 hr.2⟩ f1 hd h6 h7
    exact ⟨t2, step t2 (fun acts => by rw [doInvoke_state, ear]; exact st2), hq2⟩
  · obtain ⟨q, hq, u1, u2, u3⟩ := sm_has4_s g1
    have hnw := hEF.2.2.2.2.2.2.2.2.1 q hq
    unfold sm_mnw at hnw
    rw [u1, u2, u3, hml2] at hnw
    obtain ⟨mk, methM, cM, kP, vm₁, f1, -, -, -, -, -, -, -, hW₁, step⟩ := Steps.initColdArgsNest (e := e) Y.here hex Y.warmed hpl hown hini hy (va_Nw.use (A := args) rfl hnw) hin hcode (f := F0 m pc ls (sm_st E σ ((vP (a.2.2.2, j) :: As).reverse ++ S'))) rfl hlen est (by rw [hb]; exact hd)
    obtain ⟨t2, st2, hq2⟩ := sm_after cx0 K hM hR hC (Y.noted hW₁) (show (T.setVm vm₁).heap = H from hT) hH hL hl hc hs hk hA hS' h3 h4 ⟨Nat.le_trans hmf.1.1 hr.1, Nat.le_trans hmf.1.2 hr.2⟩ f1 hd h6 h7
    exact ⟨t2, step t2 (fun acts => by rw [doInvoke_state, ear]; exact st2), hq2⟩
end
