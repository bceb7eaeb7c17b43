section
variable {E : sm_G} {X : Nat × (Nat → Int32)} {w : Bool} {p : Program} {l : Launch} {e : Env} {R : Room} {s : State} {m : MethodId} {args : Array Value} {below : List Frame} {meth : Method} {c : Code} {mn : Nat} {C : sm_C} {r : sm_O × sm_S} {c0 s0 : Nat} {Q : State → Prop} {n pc : Nat} {a : Nat × Nat × Nat × Nat} {L S : List sm_V} {σ : sm_S} {hx : sm_S → sm_R} {H : Heap} {locs : List Loc} {ls : Array Slot}
theorem sm_asg (vm : Vm) (k : ClassId) : vm.assignable k k = true := by
  show vm.assignableAux (255 + 1) k k = true
  rw [Vm.assignableAux]
  simp
theorem sm_load41 (h : sm_run (sm_ZZ X) sm_PP w C sm_LOAD n 41 L [vP (24, 0)] σ = some r) : r = (some (some (vI 0)), σ) := by
  match n, h with
  | 0, h => cases h
  | 1, h => have h : (none : sm_R) = some r := h
            cases h
  | 2, h => have h : (none : sm_R) = some r := h
            cases h
  | n + 3, h => have h : some (some (some (vI 0)), σ) = some r := h
                exact (Option.some.inj h).symm
theorem sm_loadw (cx : sm_Cx E X p s m args meth c sm_LOAD) (hL : sm_LR E σ (sm_nl sm_LOAD) L ls) {b : Addr} (hH : sm_HR E w σ H) (hl : ∀ q ∈ locs, E.1 ≤ q.base) :
    W p l e R s m args below meth c H locs (sm_cells σ - c0) (sm_slots σ - s0) (sm_QE E w s below (some (some (vI 0)), σ) c0 s0) (F0 m 41 ls [.ref b]) := by
  obtain ⟨hex, hb, hml, hown, hts, hEF, hlk, hre, -⟩ := cx
  refine lv_astore_n (k := 2) (i := 2) hex hb (by decide +kernel) rfl hL.has (by decide) rfl fun ls' _ => ?_
  refine lv_iconst (v := 0) hex hb (show decode (sm_bc sm_LOAD) 42 = .ok (.iconst 0, 1) by decide +kernel) rfl ?_
  exact sm_weak sm_QE_of (W.zret (v := 0) hex hb (hre.trans rfl) rfl (fun t ht _ => ⟨⟨rfl, trivial⟩, by rw [ht]; exact hH⟩) hl (by decide +kernel) hlk)
set_option maxHeartbeats 1000000 in
theorem sm_loadcatch (cx : sm_Cx E X p s m args meth c sm_LOAD) {T : State} {cells slots : Nat} (Y : Stand p l e R s m args below meth c T locs cells slots) (hpc : 34 ≤ pc ∧ pc < 38) (hL : sm_LR E σ (sm_nl sm_LOAD) L ls) {st : List Value} {i : Nat} (hi : i < sm_cnt σ 24) (hH : sm_HR E w σ T.heap) (hl : ∀ q ∈ locs, E.1 ≤ q.base) (hc : cells = sm_cells σ - c0) (hs : slots = sm_slots σ - s0)
    (h : sm_run (sm_ZZ X) sm_PP w C sm_LOAD n 41 L [vP (24, 0)] σ = some r) :
    ∃ t, Steps p.tables e below ((T.setTop (F0 m pc ls st)).pushFrame (.throwing (E.1 + sm_ad σ 24 i))) t ∧ sm_QE E w s below r c0 s0 t := by
  have hr := sm_load41 h
  subst hr hc hs
  have W0 := sm_loadw (R := R) (l := l) (e := e) (below := below) (c0 := c0) (s0 := s0) (b := E.1 + sm_ad σ 24 i) cx hL hH hl
  obtain ⟨hex, hb, hml, hown, hts, hEF, hlk, hre, -, -, htab⟩ := cx
  have htab := htab rfl
  obtain ⟨x, hx1, x1, x2, x3, x4⟩ : ∃ x : ExceptionTableEntry, c.exceptionTable.toList = [x] ∧ x.startPc = 34 ∧ x.endPc = 38 ∧ x.handlerPc = 41 ∧ x.catchType = 643 := by
    rcases hq : c.exceptionTable.toList with _ | ⟨x, _ | ⟨y, z⟩⟩
    · rw [hq] at htab; cases htab
    · rw [hq] at htab
      simp only [List.map_cons, List.map_nil, List.cons.injEq, Prod.mk.injEq, and_true] at htab
      exact ⟨x, rfl, htab.1, htab.2.1, htab.2.2.1, htab.2.2.2⟩
    · rw [hq] at htab
      simp at htab
  have hlink : (Cond.classLink (sm_cn 13) 643 "java/lang/IllegalStateException").before args s = true := hts _ (sm_kl_w (a := 13) (b := 643) (c := 24) (by decide +kernel))
  have hpl : e.platform.magicAccessors = ({} : Platform).magicAccessors := by rw [Y.admits.platform]
  obtain ⟨cT, hcT, hcl⟩ := Cond.classLink_spec (show s.vm.findClass (sm_cn 13) = some m.cls from hown) hlink e.platform hpl
  have h24 : E.2.2.2.2.2.2.2.1 24 = cT := Option.some.inj (hEF.2.2.2.2.2.2.2.2.2.2.2.1.1.symm.trans hcT)
  obtain ⟨dk, _, _, kt, hd, _, _, _, _, hkt, _, hop⟩ := hcl.here
  have hcl₀ := Y.warmed.classLinks hcl
  have hW' : s.WarmedH (T.vm.noted m.cls 643 (.cls cT)) := Y.warmed.noted hd hop (State.rightAt_cls hcl)
  obtain ⟨kt', hkt', -⟩ := hW'.alike.2.2 _ _ hkt
  obtain ⟨cell, e1, e2, e3⟩ : ∃ cell, T.heap[E.1 + sm_ad σ 24 i]? = some cell ∧ cell.cls = E.2.2.2.2.2.2.2.1 24 ∧ cell.vm = .none := by
    rcases (hH.2.2.1 24 i (by decide) hi).2 with ⟨q, -⟩ | ⟨-, q⟩ | ⟨q, -⟩
    · omega
    · obtain ⟨cell, g1, g2, g3, -⟩ := q
      exact ⟨cell, g1, g2, g3⟩
    · omega
  obtain ⟨t, st2, hq⟩ := W0 (T.setVm (T.vm.noted m.cls 643 (.cls cT))) rfl (Y.noted hW')
  refine ⟨t, sm_caught (vm' := T.vm.noted m.cls 643 (.cls cT)) (pc := 41) (g := F0 m pc ls st) Y.here ?_ st2, hq⟩
  intro Q F d acts
  have hvm := Stand.throwing_vm T (F0 m pc ls st) (E.1 + sm_ad σ 24 i)
  have hhp := Stand.throwing_heap T (F0 m pc ls st) (E.1 + sm_ad σ 24 i)
  rw [W.findHandler_eq (meth := meth) (code := c) (by rw [hvm]; exact Y.method') Y.code, hx1]
  rw [sm_find_cold (cc := cT) (cell := cell) (vm' := T.vm.noted m.cls 643 (.cls cT)) (by simp only [covers, x1, x2]; simp; exact hpc) (by rw [x4]; decide) (by rw [x4, hvm]; exact resolveClass_links e.toSetting hcl₀) (by rw [hhp]; exact e1) (by rw [e3]; exact fun k q => by cases q) (by rw [e2, h24]; exact ⟨kt', hkt'⟩) ⟨kt', hkt'⟩ (by rw [e2, h24]; exact sm_asg _ _) (by rw [hvm]; no_record), x3]
end
