section
variable {E : sm_G} {X : Nat × (Nat → Int32)} {w : Bool} {p : Program} {l : Launch} {e : Env} {R : Room} {s : State} {m : MethodId} {args : Array Value} {below : List Frame} {meth : Method} {c : Code} {mn : Nat} {C : sm_C} {r : sm_O × sm_S} {c0 s0 : Nat} {Q : State → Prop} {n pc : Nat} {a : Nat × Nat × Nat × Nat} {L S : List sm_V} {σ : sm_S} {hx : sm_S → sm_R} {H : Heap} {locs : List Loc} {ls : Array Slot}
/-- what a call asks, what it gives -/
def sm_Pc (E : sm_G) (X : Nat × (Nat → Int32)) (w : Bool) (As : List sm_V) (σ : sm_S) : Array Value → State → Prop := fun a st => a = (As.map (sm_rv E (sm_ad σ))).toArray ∧ sm_HR E w σ st.heap ∧ sm_EF E X st ∧ sm_SR σ As
def sm_Qc (E : sm_G) (w : Bool) (r : sm_O × sm_S) : Array Value → State → Outcome → State → Prop := fun _ _ o t => sm_out E r o ∧ sm_HR E w r.2 t.heap
def sm_rm (fr lo : Nat) (σ σ' : sm_S) : Room := { frames := fr, locals := lo, cells := sm_cells σ' - sm_cells σ, slots := sm_slots σ' - sm_slots σ }
def sm_Met (l : Launch) (E : sm_G) (X : Nat × (Nat → Int32)) (w : Bool) (C : sm_C) (fr lo : Nat) : Prop := ∀ k As σ r, C k As σ = some r → MetFree l (sm_y k) (headSpec sm_wd (sm_rm fr lo σ r.2)) (sm_Pc E X w As σ) (fun _ _ _ _ _ => True) (sm_Qx E.1 (sm_cells r.2 - sm_cells σ) (sm_slots r.2 - sm_slots σ) (sm_Qc E w r))
theorem sm_cww {k : Nat} (hk : k < 308) : sm_cw k ∈ sm_wd := by
  refine sm_inw (sm_cw_in k hk) ?_
  unfold sm_cw
  cases k == sm_LOAD <;> rfl
/-- what the tables say of a method -/
theorem sm_meth {k : Nat} (hk : k < 308) (hts : ∀ u ∈ sm_wd, u.before args s = true) : ∃ mk meth c kP, s.methodNamed? (sm_y k) = some mk ∧ s.vm.method? mk = some meth ∧ meth.code = some c ∧ c.maxLocals = sm_nl k ∧ s.vm.classes[mk.cls]? = some kP ∧ kP.init = .initialized ∧ parseMethodDescriptor (sm_y k).desc = some meth.sig := by
  have h1 := hts _ (sm_cww hk)
  have h2 : (Cond.initialized (sm_y k).cls).before args s = true := hts _ (sm_wrd (of_decide_eq_true (List.all_eq_true.mp sm_pi_in k (List.mem_range.mpr hk))) rfl)
  have fin : ∀ mk meth c, s.methodNamed? (sm_y k) = some mk → s.vm.method? mk = some meth → meth.code = some c → c.maxLocals = sm_nl k → parseMethodDescriptor (sm_y k).desc = some meth.sig → ∃ mk meth c kP, s.methodNamed? (sm_y k) = some mk ∧ s.vm.method? mk = some meth ∧ meth.code = some c ∧ c.maxLocals = sm_nl k ∧ s.vm.classes[mk.cls]? = some kP ∧ kP.init = .initialized ∧ parseMethodDescriptor (sm_y k).desc = some meth.sig := by
    intro mk meth c e1 e2 e3 e4 e5
    obtain ⟨kP, hkP, -⟩ := className_of_methodNamed e1
    exact ⟨mk, meth, c, kP, e1, e2, e3, e4, hkP, Cond.initialized_spec (findClass_of_methodNamed e1) hkP h2, e5⟩
  unfold sm_cw at h1
  cases hb : k == sm_LOAD with
  | true =>
    rw [hb] at h1
    obtain ⟨mk, meth, c, e1, e2, e3, -, e4, -, -, -, e5⟩ := Cond.codeWith_spec h1
    exact fin mk meth c e1 e2 e3 e4 e5
  | false =>
    rw [hb] at h1
    obtain ⟨mk, e1⟩ := Cond.code_named h1
    obtain ⟨meth, c, e2, e3, -, e4, -, -, -, e5⟩ := Cond.code_spec e1 h1
    exact fin mk meth c e1 e2 e3 e4 e5
theorem sm_thrown2 {T : State} {cells slots : Nat} (Y : Stand p l e R s m args below meth c T locs cells slots) (hlk : meth.locks = false) {g : JFrame} (hex0 : ∀ x ∈ c.exceptionTable.toList, covers x g.pc = false) (hg : g.method = m) (h1 : g.locked = none) (h2 : g.entered = []) {i : Nat} {σ : sm_S} (hi : i < sm_cnt σ 24) (hH : sm_HR E w σ T.heap) (hl : ∀ q ∈ locs, E.1 ≤ q.base) (hc : cells = sm_cells σ - c0) (hs : slots = sm_slots σ - s0) :
    ∃ t, Steps p.tables e below ((T.setTop g).pushFrame (.throwing (E.1 + sm_ad σ 24 i))) t ∧ sm_QE E w s below (none, σ) c0 s0 t := by
  subst hc hs
  obtain ⟨st, hr, he, hw, hsm⟩ := Y.leaveThrown (E.1 + sm_ad σ 24 i) hg h1 h2 hex0 hlk
  exact ⟨_, st, .threw _, hr, he, ⟨⟨i, hi, rfl⟩, hH⟩, locs, ⟨hw, hsm⟩, hl⟩
theorem sm_nlm : (List.range 308).all (fun k => decide (sm_nl k ≤ 30)) = true := by decide +kernel
set_option maxHeartbeats 1000000 in
theorem sm_after (cx : sm_Cx E X p s m args meth c mn) (K : sm_K E X w p l e R s m args below meth c mn C r c0 s0 (sm_QE E w s below r c0 s0) n) {fr lo : Nat} (hM : sm_Met l E X w C fr lo) (hR : fr + 1 ≤ R.frames ∧ lo + 60 ≤ R.locals) (hC : ∀ m a s o t, C m a s = some (o, t) → sm_mo s t)
    {T : State} (Y : Stand p l e R s m args below meth c T locs (sm_cells σ - c0) (sm_slots σ - s0)) (hT : T.heap = H) (hH : sm_HR E w σ H) (hL : sm_LR E σ (sm_nl mn) L ls) (hl : ∀ q ∈ locs, E.1 ≤ q.base) (hc : c0 ≤ sm_cells σ) (hs : s0 ≤ sm_slots σ)
    {k : Nat} {As : List sm_V} (hk : k < 308) (hA : sm_SR σ As) (hS : sm_SR σ S) (hcat : sm_cat S ≤ 8) {o : sm_O} {σ' : sm_S} (hcall : C k As σ = some (o, σ')) (hcr : sm_cells σ' ≤ c0 + R.cells ∧ sm_slots σ' ≤ s0 + R.slots)
    {mk : MethodId} (hn : s.methodNamed? (sm_y k) = some mk) {ins : Instr} (hd : decode (sm_bc mn) pc = .ok (ins, 3))
    (hret : ∀ v, o = some v → sm_run (sm_ZZ X) sm_PP w C mn n (pc + 3) L (v.toList ++ S) σ' = some r) (hthr : o = none → sm_hx sm_PP mn pc (sm_run (sm_ZZ X) sm_PP w C mn n) L σ' = some r) :
    ∃ t, Steps p.tables e below (doInvoke e (T.setTop (F0 m pc ls (sm_st E σ S))) [] mk (As.map (sm_rv E (sm_ad σ))).toArray).1 t ∧ sm_QE E w s below r c0 s0 t := by
  have cx0 := cx
  obtain ⟨hex, hb, hml, hown, hts, hEF, hlk, hre, -, hne, hload⟩ := cx
  have ho := hEF.2.2.2.2.2.2.2.2.2.2.2.2
  have hm := hC _ _ _ _ _ hcall
  have m1 : sm_cells σ ≤ sm_cells σ' := hm.1.1
  have m2 : sm_slots σ ≤ sm_slots σ' := hm.1.2
  have htsT : ∀ u ∈ sm_wd, ∀ a' : Array Value, u.before a' T = true := fun u hu a' => word_at Y.warmed (good_of_word (List.mem_filter.mp hu).2) (hts u hu)
  obtain ⟨mk', methY, cY, kY, f1, f2, f3, f4, f5, f6, -⟩ := sm_meth (args := args) (s := T) hk (fun u hu => htsT u hu args)
  have hn' : T.methodNamed? (sm_y k) = some mk := Y.named hn
  cases hn'.symm.trans f1
  have hnl : sm_nl k ≤ 30 := of_decide_eq_true (List.all_eq_true.mp sm_nlm k (List.mem_range.mpr hk))
  obtain ⟨oo, t, Lc, hq, hLc, Y', hW, hre1, hth1⟩ := sm_call (bs := E.1) Y (hM k As σ (o, σ') hcall) (a := (As.map (sm_rv E (sm_ad σ))).toArray) hn' f2 f3 f5 f6 (atoms_intro fun u hu => htsT u hu _) hR.1 (g := F0 m pc ls (sm_st E σ S)) (by
      show 2 * 0 + ((S.map (sm_rv E (sm_ad σ))).map fun v => v.category).sum + (cY.maxLocals + 11) + lo ≤ R.locals
      rw [sm_cats ho, f4]; omega) (by
      show sm_cells σ - c0 + (sm_cells σ' - sm_cells σ) ≤ R.cells
      omega) (by
      show sm_slots σ - s0 + (sm_slots σ' - sm_slots σ) ≤ R.slots
      omega) rfl (hL.1.trans hml.symm) (by rw [hb]; exact hd) ⟨rfl, by show sm_HR E w σ T.heap; rw [hT]; exact hH, hEF.warm Y.warmed, hA⟩
  obtain ⟨hout, hH'⟩ := hq
  have e1 : sm_cells σ - c0 + (sm_cells σ' - sm_cells σ) = sm_cells σ' - c0 := by omega
  have e2 : sm_slots σ - s0 + (sm_slots σ' - sm_slots σ) = sm_slots σ' - s0 := by omega
  have Y2 : Stand p l e R s m args below meth c (sm_back T t) (locs ++ Lc) (sm_cells σ' - c0) (sm_slots σ' - s0) := by rw [← e1, ← e2]; exact Y'
  have hl' : ∀ q ∈ locs ++ Lc, E.1 ≤ q.base := fun q hq => by
    rcases List.mem_append.mp hq with z | z
    · exact hl q z
    · exact hLc q z
  have hL' : sm_LR E σ' (sm_nl mn) L ls := hL.mono hm.2.1 (fun t i _ h => hm.2.2 t i h)
  have hS' : sm_SR σ' S := hS.mono hm.2.1
  have hst : sm_st E σ' S = sm_st E σ S := sm_st_eq (fun t i _ h => hm.2.2 t i h) hS
  rcases o with _ | v
  · obtain ⟨i, hi, rfl⟩ : ∃ i, i < sm_cnt σ' 24 ∧ oo = .threw (E.1 + sm_ad σ' 24 i) := hout
    have h1 := hth1 _ rfl
    have h2 := hthr rfl
    have leave : sm_hd mn pc = none → (∀ x ∈ c.exceptionTable.toList, covers x pc = false) → ∃ t, Steps p.tables e below (doInvoke e (T.setTop (F0 m pc ls (sm_st E σ S))) [] mk (As.map (sm_rv E (sm_ad σ))).toArray).1 t ∧ sm_QE E w s below r c0 s0 t := by
      intro g1 g2
      unfold sm_hx at h2
      rw [show sm_PP.2.2 mn pc = none from g1] at h2
      cases h2
      obtain ⟨t2, st2, hq2⟩ := sm_thrown2 (E := E) (w := w) (c0 := c0) (s0 := s0) Y2 hlk (g := F0 m pc ls (sm_st E σ S)) g2 rfl rfl rfl hi hH' hl' rfl rfl
      exact ⟨t2, h1.trans st2, hq2⟩
    by_cases hld : mn = sm_LOAD
    · subst hld
      by_cases hp : 34 ≤ pc ∧ pc < 38
      · unfold sm_hx at h2
        rw [show sm_PP.2.2 sm_LOAD pc = some 41 by
          show (bif Nat.ble 34 pc && Nat.blt pc 38 then some 41 else none) = some 41
          rw [show Nat.ble 34 pc = true from Nat.ble_eq.mpr hp.1, show Nat.blt pc 38 = true from Nat.ble_eq.mpr hp.2]; rfl] at h2
        obtain ⟨t2, st2, hq2⟩ := sm_loadcatch (c0 := c0) (s0 := s0) cx0 Y2 hp hL' (st := sm_st E σ S) hi hH' hl' rfl rfl h2
        exact ⟨t2, h1.trans st2, hq2⟩
      · refine leave ?_ ?_
        · show (bif Nat.ble 34 pc && Nat.blt pc 38 then some 41 else none) = none
          cases h3 : (Nat.ble 34 pc && Nat.blt pc 38) with
          | false => rfl
          | true =>
            simp only [Bool.and_eq_true] at h3
            exact absurd ⟨Nat.ble_eq.mp h3.1, Nat.ble_eq.mp h3.2⟩ hp
        · intro x hx
          have htab := hload rfl
          have hx2 := List.mem_map_of_mem (f := fun h : ExceptionTableEntry => (h.startPc, h.endPc, h.handlerPc, h.catchType)) hx
          rw [htab] at hx2
          simp only [List.mem_singleton, Prod.mk.injEq] at hx2
          cases hcv : covers x pc with
          | false => rfl
          | true =>
            simp only [covers, hx2.1, hx2.2.1] at hcv
            simp at hcv
            exact absurd hcv hp
    · refine leave ?_ (by rw [hne hld]; exact fun x hx => by cases hx)
      show (bif mn == 280 then _ else none) = none
      rw [show (mn == 280) = false from sm_bne hld]; rfl
  · have fin : ∀ v : Option sm_V, oo = .returned (v.map (sm_rv E (sm_ad σ'))) → (∀ x, v = some x → sm_okv (sm_cnt σ') x) → sm_run (sm_ZZ X) sm_PP w C mn n (pc + 3) L (v.toList ++ S) σ' = some r → ∃ t, Steps p.tables e below (doInvoke e (T.setTop (F0 m pc ls (sm_st E σ S))) [] mk (As.map (sm_rv E (sm_ad σ))).toArray).1 t ∧ sm_QE E w s below r c0 s0 t := by
      intro v ev okv hrun
      obtain ⟨t2, st2, hq2⟩ := K (pc + 3) L (v.toList ++ S) σ' t.heap (locs ++ Lc) ls hrun hH' hL' (fun u hu => by
        rcases List.mem_append.mp hu with z | z
        · cases v with
          | none => cases z
          | some x => rcases List.mem_singleton.mp z with rfl; exact okv _ rfl
        · exact hS' u z) hl' (Nat.le_trans hc hm.1.1) (Nat.le_trans hs hm.1.2) (sm_back T t) rfl Y2
      refine ⟨t2, (hre1 _ ev).trans ?_, hq2⟩
      have : ({ F0 m pc ls (sm_st E σ S) with pc := pc + 3, stack := (v.map (sm_rv E (sm_ad σ'))).toList ++ sm_st E σ S } : JFrame) = F0 m (pc + 3) ls (sm_st E σ' (v.toList ++ S)) := by
        rw [← hst]
        cases v <;> rfl
      rw [show ({ F0 m pc ls (sm_st E σ S) with pc := (F0 m pc ls (sm_st E σ S)).pc + 3, stack := (v.map (sm_rv E (sm_ad σ'))).toList ++ (F0 m pc ls (sm_st E σ S)).stack } : JFrame) = F0 m (pc + 3) ls (sm_st E σ' (v.toList ++ S)) from this]
      exact st2
    rcases v with _ | v
    · have hout : oo = .returned none := hout
      exact fin none hout (fun x hx => by cases hx) (hret none rfl)
    · have hout : oo = .returned (some (sm_rv E (sm_ad σ') v)) ∧ sm_okv (sm_cnt σ') v := hout
      exact fin (some v) hout.1 (fun x hx => by cases hx; exact hout.2) (hret (some v) rfl)
end
