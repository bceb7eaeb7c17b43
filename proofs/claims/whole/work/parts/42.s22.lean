section
variable {E : sm_G} {X : Nat × (Nat → Int32)} {w : Bool} {p : Program} {l : Launch} {e : Env} {R : Room} {s : State} {m : MethodId} {args : Array Value} {below : List Frame} {meth : Method} {c : Code} {mn : Nat} {C : sm_C} {r : sm_O × sm_S} {c0 s0 : Nat} {Q : State → Prop} {n pc : Nat} {a : Nat × Nat × Nat × Nat} {L S : List sm_V} {σ : sm_S} {hx : sm_S → sm_R} {H : Heap} {locs : List Loc} {ls : Array Slot}
set_option maxHeartbeats 1000000 in
theorem sm_s_exc (cx : sm_Cx E X p s m args meth c mn) (K : sm_K E X w p l e R s m args below meth c mn C r c0 s0 Q n) (hfl : l.flags = pinnedFlags ++ [noTraceFlag]) (hlow0 : ∀ q, ¬ E.1 ≤ q → s.heap[q]? = E.2.2.2.2.2.2.2.2[q]?) (hR : 6 ≤ R.frames ∧ 100 ≤ R.locals) {i a1 a2 a3 : Nat} (hd : decode (sm_bc mn) pc = .ok (.invokespecial i, 3)) (hok : sm_okA mn (.invokespecial i) (a1, a2, a3, 1001) pc = true)
    (h : sm_I (sm_ZZ X) w C (.invokespecial i) (a1, a2, a3, 1001) pc (sm_run (sm_ZZ X) sm_PP w C mn n (pc + 3)) (sm_run (sm_ZZ X) sm_PP w C mn n) hx L S σ = some r) (hH : sm_HR E w σ H) (hL : sm_LR E σ (sm_nl mn) L ls) (hS : sm_SR σ S) (hl : ∀ q ∈ locs, E.1 ≤ q.base) (hc : c0 ≤ sm_cells σ) (hs : s0 ≤ sm_slots σ) :
    W p l e R s m args below meth c H locs (sm_cells σ - c0) (sm_slots σ - s0) Q (F0 m pc ls (sm_st E σ S)) := by
  obtain ⟨hex, hb, hml, hown, hts, hEF, -⟩ := cx
  have ho := hEF.2.2.2.2.2.2.2.2.2.2.2.2
  rcases S with _ | ⟨v1, S⟩
  · exact absurd h (fun z => by cases z)
  rcases v1 with _ | _ | u | _ <;> first | exact absurd h (fun z => by cases z) | skip
  rcases S with _ | ⟨v2, S⟩
  · exact absurd h (fun z => by cases z)
  rcases v2 with _ | _ | q | _ <;> first | exact absurd h (fun z => by cases z) | skip
  have hk : (if u.1 = 5 ∧ q.1 = 24 ∧ sm_cat S ≤ 8 then sm_run (sm_ZZ X) sm_PP w C mn n (pc + 3) L S σ else none) = some r := h
  by_cases hz : ¬ (u.1 = 5 ∧ q.1 = 24 ∧ sm_cat S ≤ 8)
  · rw [if_neg hz] at hk; cases hk
  have hz := Decidable.not_not.mp hz
  rw [if_pos hz] at hk
  obtain ⟨z1, z2, z3⟩ := hz
  obtain ⟨u1, u2⟩ := u
  obtain ⟨q1, q2⟩ := q
  dsimp only at z1 z2
  subst z1 z2
  have hqk : sm_okp (sm_cnt σ) (24, q2) := hS (vP (24, q2)) (by simp)
  have hi := sm_okp_big (by decide) hqk
  have hok : sm_has4 sm_ml (sm_ow mn) i 1001 = true := hok
  obtain ⟨x, x0, x1, x2, x3⟩ := sm_has4_s hok
  have h646 := List.all_eq_true.mp sm_646 x (List.mem_filter.mpr ⟨x0, by rw [x3]; rfl⟩)
  simp only [Bool.and_eq_true, beq_iff_eq] at h646
  have ho13 : sm_ow mn = 13 := x1.symm.trans h646.1
  have hi646 : i = 646 := x2.symm.trans h646.2
  subst hi646
  rw [ho13] at hown
  obtain ⟨cell, e1, e2, e3, e4, e5, e6⟩ : ∃ cell, H[E.1 + sm_ad σ 24 q2]? = some cell ∧ cell.cls = E.2.2.2.2.2.2.2.1 24 ∧ cell.vm = .none ∧ cell.monitor = {} ∧ cell.slots.size = 6 ∧ cell.slots[E.2.2.2.2.2.2.1.2 14 0]? = some .null := by
    rcases (hH.2.2.1 24 q2 (by decide) hi).2 with ⟨q, -⟩ | ⟨-, q⟩ | ⟨q, -⟩
    · omega
    · exact q
    · omega
  show W p l e R s m args below meth c H locs _ _ Q (F0 m pc ls (.ref (E.2.2.1 u2) :: va_rf (sm_rp E (sm_ad σ) (24, q2)) :: sm_st E σ S))
  rw [sm_rp_big (by decide)]
  intro T hT Y
  obtain ⟨vm', cell', Lc, Y', hLc, f1, f2, f3, f4, f5, step⟩ := sm_made (b := E.1 + sm_ad σ 24 q2) (cell := cell) (msg := .ref (E.2.2.1 u2)) (rest := sm_st E σ S) (g := F0 m pc ls (.ref (E.2.2.1 u2) :: .ref (E.1 + sm_ad σ 24 q2) :: sm_st E σ S)) Y hex (Launch.traces_off hfl Y.admits) hown hts hEF hlow0 (fun z hz => by rw [hT]; exact sm_low hH hz) (Nat.le_add_right _ _) (by rw [hT]; exact e1) e2 e3 e4 e5 e6 rfl rfl (hL.1.trans hml.symm) rfl (by rw [hb]; exact hd) hR.1 (by
    show 2 * 0 + ((S.map (sm_rv E (sm_ad σ))).map fun v => v.category).sum + 81 ≤ R.locals
    rw [sm_cats ho]; omega)
  have hlt : E.1 + sm_ad σ 24 q2 < H.size := (Array.getElem?_eq_some_iff.mp e1).1
  have hheap : ((T.setVm vm').setCell (E.1 + sm_ad σ 24 q2) cell').heap = H.setIfInBounds (E.1 + sm_ad σ 24 q2) cell' := by rw [← hT]; rfl
  have hHR : sm_HR E w σ (H.setIfInBounds (E.1 + sm_ad σ 24 q2) cell') := by
    refine hH.set (σ' := σ) (t := 24) (i := q2) (by decide) hi rfl (fun t' i' k' _ => ⟨rfl, rfl, rfl⟩) (fun k' => hH.2.2.2.2.2.1 _ _ _) (by simp) (fun z hz => by simp [Array.getElem?_setIfInBounds, Ne.symm hz]) (Or.inr (Or.inl ⟨rfl, cell', ?_, f1, f2, f3, f4, f5⟩))
    simp [hlt]
  obtain ⟨t2, st2, hq2⟩ := K _ _ _ _ _ _ _ hk hHR hL hS.tail.tail (fun z hz => by
      rcases List.mem_append.mp hz with y | y
      · exact hl z y
      · rw [hLc z y]
        exact Nat.le_add_right _ _) hc hs _ hheap Y'
  exact ⟨t2, step t2 st2, hq2⟩
theorem sm_find_s {pc : Nat} {en : sm_E} : ∀ {l : List sm_E}, sm_find pc l = some en → en ∈ l ∧ en.1 = pc
  | [], h => by cases h
  | x :: t, h => by
    have h : (bif x.1 == pc then some x else sm_find pc t) = some en := h
    cases hx : x.1 == pc with
    | true =>
      rw [hx] at h
      cases h
      exact ⟨List.mem_cons_self, by simpa using hx⟩
    | false =>
      rw [hx] at h
      obtain ⟨h1, h2⟩ := sm_find_s (l := t) h
      exact ⟨List.mem_cons_of_mem _ h1, h2⟩
def sm_isTh (en : sm_E) : Bool := match en.2.1 with
  | .athrow => true
  | _ => false
theorem sm_noTh : (sm_cd sm_LOAD).all (fun en => !(sm_isTh en)) = true := by decide +kernel
set_option maxHeartbeats 2000000 in
theorem sm_step (cx : sm_Cx E X p s m args meth c mn) (hfl : l.flags = pinnedFlags ++ [noTraceFlag]) (hlow0 : ∀ q, ¬ E.1 ≤ q → s.heap[q]? = E.2.2.2.2.2.2.2.2[q]?) {fr lo : Nat} (hM : sm_Met l E X w C fr lo) (hR : fr + 1 ≤ R.frames ∧ lo + 60 ≤ R.locals) (hR2 : 6 ≤ R.frames ∧ 100 ≤ R.locals) (hC : ∀ m a s o t, C m a s = some (o, t) → sm_mo s t) (hCk : ∀ k As σ r, C k As σ = some r → k < 308) (hr : sm_cells r.2 ≤ c0 + R.cells ∧ sm_slots r.2 ≤ s0 + R.slots)
    (hcd : (sm_cd mn).all (sm_okE mn) = true) (K : sm_K E X w p l e R s m args below meth c mn C r c0 s0 (sm_QE E w s below r c0 s0) n) : sm_K E X w p l e R s m args below meth c mn C r c0 s0 (sm_QE E w s below r c0 s0) (n + 1) := by
  intro pc L S σ H locs ls h hH hL hS hl hc hs
  rw [sm_run] at h
  cases hf : sm_find pc (sm_PP.1 mn) with
  | none => rw [hf] at h; cases h
  | some en =>
    rw [hf] at h
    obtain ⟨hm1, hm2⟩ := sm_find_s hf
    obtain ⟨d1, d2, d3⟩ := sm_okE_s (List.all_eq_true.mp hcd en hm1)
    have hL2 := hL.lv en
    have h : sm_I (sm_ZZ X) w C en.2.1 en.2.2.2.1 en.1 (sm_run (sm_ZZ X) sm_PP w C mn n (en.1 + en.2.2.1)) (sm_run (sm_ZZ X) sm_PP w C mn n) (sm_hx sm_PP mn en.1 (sm_run (sm_ZZ X) sm_PP w C mn n) (sm_lv en L)) (sm_lv en L) S σ = some r := h
    generalize sm_lv en L = L' at h hL2
    have hnoth : mn = sm_LOAD → sm_isTh en = false := by
      rintro rfl
      have := List.all_eq_true.mp sm_noTh en hm1
      simpa using this
    obtain ⟨pc0, ins, len, a, lv⟩ := en
    dsimp only at hm2 d1 d2 d3 h
    subst hm2
    have hR1 : 1 ≤ R.frames ∧ 60 ≤ R.locals := ⟨by omega, by omega⟩
    cases hlt : sm_lt ins with
    | true => exact sm_light cx K hlt d1 d2 d3 h hH hL2 hS hl hc hs
    | false =>
      cases ins <;> first | cases hlt | skip
      all_goals first | (replace d2 := sm_ln_r (k := 0) d2 rfl; subst d2) | (replace d2 := sm_ln_r (k := 1) d2 rfl; subst d2) | (replace d2 := sm_ln_r (k := 2) d2 rfl; subst d2) | skip
      case some.false.ldc.refl i => exact sm_s_ldc cx K d1 d3 h hH hL2 hS hl hc hs
      case some.false.ldc_w.refl i => exact sm_s_ldcw cx K d1 d3 h hH hL2 hS hl hc hs
      case some.false.ldc2_w.refl i => exact sm_s_ldc2 cx K d1 d3 h hH hL2 hS hl hc hs
      case some.false.getstatic.refl i => exact sm_s_gets cx K d1 d3 h hH hL2 hS hl hc hs
      case some.false.getfield.refl i => exact sm_s_getf cx K d1 d3 h hH hL2 hS hl hc hs
      case some.false.putfield.refl i => exact sm_s_putf cx K d1 d3 h hH hL2 hS hl hc hs
      case some.false.iaload.refl => exact sm_s_ild cx K d1 d3 h hH hL2 hS hl hc hs
      case some.false.baload.refl => exact sm_s_bld cx K d1 d3 h hH hL2 hS hl hc hs
      case some.false.laload.refl => exact sm_s_lld cx K d1 d3 h hH hL2 hS hl hc hs
      case some.false.aaload.refl => exact sm_s_ald cx K d1 d3 h hH hL2 hS hl hc hs
      case some.false.iastore.refl => exact sm_s_ist cx K d1 d3 h hH hL2 hS hl hc hs
      case some.false.bastore.refl => exact sm_s_bst cx K d1 d3 h hH hL2 hS hl hc hs
      case some.false.lastore.refl => exact sm_s_lst cx K d1 d3 h hH hL2 hS hl hc hs
      case some.false.aastore.refl => exact sm_s_ast cx K d1 d3 h hH hL2 hS hl hc hs
      case some.false.arraylength.refl => exact sm_s_alen cx K d1 d3 h hH hL2 hS hl hc hs
      case some.false.new.refl i => exact sm_s_new cx K hC hr d1 d3 h hH hL2 hS hl hc hs
      case some.false.newarray.refl ty => exact sm_s_newa cx K hC hr d1 d3 h hH hL2 hS hl hc hs
      case some.false.anewarray.refl i => exact sm_s_anew cx K hC hr d1 d3 h hH hL2 hS hl hc hs
      case some.false.ireturn.refl => exact sm_s_iret cx d1 d3 h hH hl
      case some.false.lreturn.refl => exact sm_s_lret cx d1 d3 h hH hl
      case some.false.areturn.refl => exact sm_s_aret cx d1 d3 h hH hS hl
      case some.false.return_.refl => exact sm_s_vret cx d1 d3 h hH hl
      case some.false.athrow.refl =>
        have hnl : mn ≠ sm_LOAD := fun q => by have := hnoth q; cases this
        refine sm_s_athrow cx hnl d1 ?_ h hH hS hl
        unfold sm_hx
        rw [show sm_PP.2.2 mn pc0 = none by
          show (bif mn == 280 then _ else none) = none
          rw [show (mn == 280) = false from sm_bne hnl]; rfl]
      case some.false.invokevirtual.refl i => exact sm_s_virt cx K hM hR hC hCk hr d1 d3 h hH hL2 hS hl hc hs
      case some.false.invokestatic.refl i =>
        by_cases h1000 : a.2.2.2 = 1000
        · obtain ⟨t, k, a3, a4⟩ := a
          have h1000 : a4 = 1000 := h1000
          subst h1000
          exact sm_s_copy cx K hR1 d1 d3 h hH hL2 hS hl hc hs
        · exact sm_s_stat cx K hM hR hC hCk hr h1000 d1 d3 h hH hL2 hS hl hc hs
      case some.false.invokespecial.refl i =>
        by_cases h1 : a.2.2.2 = 1001
        · obtain ⟨t, k, a3, a4⟩ := a
          have h1 : a4 = 1001 := h1
          subst h1
          exact sm_s_exc cx K hfl hlow0 hR2 d1 d3 h hH hL2 hS hl hc hs
        · by_cases h2 : a.2.2.2 = 1002
          · obtain ⟨t, k, a3, a4⟩ := a
            have h2 : a4 = 1002 := h2
            subst h2
            exact sm_s_obj cx K hR1 d1 d3 h hH hL2 hS hl hc hs
          · exact sm_s_spec cx K hM hR hC hCk hr h1 h2 d1 d3 h hH hL2 hS hl hc hs
theorem sm_all (cx : sm_Cx E X p s m args meth c mn) (hfl : l.flags = pinnedFlags ++ [noTraceFlag]) (hlow0 : ∀ q, ¬ E.1 ≤ q → s.heap[q]? = E.2.2.2.2.2.2.2.2[q]?) {fr lo : Nat} (hM : sm_Met l E X w C fr lo) (hR : fr + 1 ≤ R.frames ∧ lo + 60 ≤ R.locals) (hR2 : 6 ≤ R.frames ∧ 100 ≤ R.locals) (hC : ∀ m a s o t, C m a s = some (o, t) → sm_mo s t) (hCk : ∀ k As σ r, C k As σ = some r → k < 308) (hr : sm_cells r.2 ≤ c0 + R.cells ∧ sm_slots r.2 ≤ s0 + R.slots)
    (hcd : (sm_cd mn).all (sm_okE mn) = true) : ∀ n, sm_K E X w p l e R s m args below meth c mn C r c0 s0 (sm_QE E w s below r c0 s0) n
  | 0 => fun pc L S σ H locs ls h => by cases h
  | n + 1 => sm_step cx hfl hlow0 hM hR hR2 hC hCk hr hcd (sm_all cx hfl hlow0 hM hR hR2 hC hCk hr hcd n)
end
