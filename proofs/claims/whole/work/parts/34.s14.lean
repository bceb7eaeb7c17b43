section
variable {E : sm_G} {X : Nat × (Nat → Int32)} {w : Bool} {p : Program} {l : Launch} {e : Env} {R : Room} {s : State} {m : MethodId} {args : Array Value} {below : List Frame} {meth : Method} {c : Code} {mn : Nat} {C : sm_C} {r : sm_O × sm_S} {c0 s0 : Nat} {Q : State → Prop} {n pc : Nat} {a : Nat × Nat × Nat × Nat} {L S : List sm_V} {σ : sm_S} {hx : sm_S → sm_R} {H : Heap} {locs : List Loc} {ls : Array Slot}
/-- a throw that leaves the method -/
theorem sm_thrown {T : State} {cells slots : Nat} (Y : Stand p l e R s m args below meth c T locs cells slots) (hlk : meth.locks = false) (hex0 : c.exceptionTable.toList = []) {g : JFrame} (hg : g.method = m) (h1 : g.locked = none) (h2 : g.entered = []) {i : Nat} {σ : sm_S} (hi : i < sm_cnt σ 24) (hH : sm_HR E w σ T.heap) (hl : ∀ q ∈ locs, E.1 ≤ q.base) (hc : cells = sm_cells σ - c0) (hs : slots = sm_slots σ - s0) :
    ∃ t, Steps p.tables e below ((T.setTop g).pushFrame (.throwing (E.1 + sm_ad σ 24 i))) t ∧ sm_QE E w s below (none, σ) c0 s0 t := by
  subst hc hs
  obtain ⟨st, hr, he, hw, hsm⟩ := Y.leaveThrown (E.1 + sm_ad σ 24 i) hg h1 h2 (by rw [hex0]; exact fun x hx => by cases hx) hlk
  exact ⟨_, st, .threw _, hr, he, ⟨⟨i, hi, rfl⟩, hH⟩, locs, ⟨hw, hsm⟩, hl⟩
theorem sm_s_athrow (cx : sm_Cx E X p s m args meth c mn) (hnl : mn ≠ sm_LOAD) (hd : decode (sm_bc mn) pc = .ok (.athrow, 1)) (hhx : hx σ = some (none, σ))
    {nx : List sm_V → List sm_V → sm_S → sm_R} {jp : Nat → List sm_V → List sm_V → sm_S → sm_R} (h : sm_I (sm_ZZ X) w C .athrow a pc nx jp hx L S σ = some r) (hH : sm_HR E w σ H) (hS : sm_SR σ S) (hl : ∀ q ∈ locs, E.1 ≤ q.base) :
    W p l e R s m args below meth c H locs (sm_cells σ - c0) (sm_slots σ - s0) (sm_QE E w s below r c0 s0) (F0 m pc ls (sm_st E σ S)) := by
  obtain ⟨hex, hb, hml, hown, hts, hEF, hlk, hre, -, hne, -⟩ := cx
  rcases sm_r1_s S with q | ⟨x, S, rfl⟩
  · exact absurd h (by rw [show sm_I (sm_ZZ X) w C .athrow a pc nx jp hx L S σ = none from q _]; exact fun z => by cases z)
  have h : sm_rq x 24 (fun _ => hx σ) = some r := h
  obtain ⟨h1, h2⟩ := sm_rq_s h
  rw [hhx] at h2
  cases h2
  obtain ⟨t, i⟩ := x
  have h1 : t = 24 := h1
  subst h1
  have hi := sm_okp_big (by decide) (hS (vP (24, i)) (List.mem_cons_self ..))
  intro T hT Y
  subst hT
  obtain ⟨st, hr, he, hw, hsm⟩ := Y.athrowLeaves hex (g := F0 m pc ls (sm_st E σ (vP (24, i) :: S))) rfl rfl rfl (by rw [hne hnl]; exact fun x hx => by cases hx) (a := E.1 + sm_ad σ 24 i) (rest := sm_st E σ S) (by show va_rf (sm_rp E (sm_ad σ) (24, i)) :: _ = _; rw [sm_rp_big (by decide)]; rfl) (by rw [hb]; exact hd) hlk
  exact ⟨_, st, .threw _, hr, he, ⟨⟨i, hi, rfl⟩, hH⟩, locs, ⟨hw, hsm⟩, hl⟩
/-- a handler's class is looked up at the first throw -/
theorem sm_find_cold {U : State} {f : JFrame} {x : ExceptionTableEntry} {tl : List ExceptionTableEntry} {cc : ClassId} {cell : Cell} {vm' : Vm} {b : Addr} {Q : Handler → Pre} {F : CtlPost} {d : Bool} {acts : List Action} (hcv : covers x f.pc = true) (h0 : x.catchType ≠ 0) (hg : (Jvm.resolveClass f.method.cls x.catchType).Gives e.toSetting U.vm (.ok cc) vm') (hcell : U.heap[b]? = some cell) (hobj : ∀ k, cell.vm ≠ .statics k)
    (hk : ∃ k, vm'.classes[cell.cls]? = some k) (hc : ∃ k, vm'.classes[cc]? = some k) (hfit : vm'.assignable cell.cls cc = true) (hsz : vm'.classes.size ≤ U.vm.classes.size) :
    wp (findHandler.go f b (x :: tl)) Q F e d acts U ↔ Q (.found x.handlerPc) d acts (U.setVm vm') := by
  simp only [covers] at hcv
  obtain ⟨ha, ht⟩ := hg.op (op := VmOp.resolveClass f.method.cls x.catchType) rfl
  have hcell' : (U.setVm vm').heap[b]? = some cell := hcell
  simp [findHandler.go, hcv, h0, ha, ht, hsz, hcell, hobj, hk, hc, hfit, VmOp.dirties, VmOp.acts]
theorem sm_catch_step {U : State} {f : JFrame} {b : Addr} {rs : List Frame} {pc : Nat} {vm' : Vm} (hfind : ∀ (Q : Handler → Pre) (F : CtlPost) (d : Bool) (acts : List Action), wp (findHandler f b) Q F e d acts U ↔ Q (.found pc) d acts (U.setVm vm')) :
    (stepThrowing e U b (.java f :: rs)).1 = (U.setVm vm').setFrames (.java { f with pc := pc, stack := [.ref b] } :: rs) := by
  have : (stepThrowing e U b (.java f :: rs)).Is ((U.setVm vm').setFrames (.java { f with pc := pc, stack := [.ref b] } :: rs)) [] := by
    simp only [stepThrowing, searchFrame, vmDo]
    generalize hr : Sem.go _ e false [] U = res
    obtain ⟨as, rfl, ha⟩ := Sem.eq_ok_of hr (a := Handler.found pc) (s' := U.setVm vm') (acts' := []) (by simp [hfind _ _ _ _])
    exact ⟨rfl, ha⟩
  exact this.1
theorem sm_caught {U : State} {g : JFrame} {b : Addr} {pc : Nat} {vm' : Vm} {target : State} (h : At U g.method c below) (hfind : ∀ (Q : Handler → Pre) (F : CtlPost) (d : Bool) (acts : List Action), wp (findHandler g b) Q F e d acts ((U.setTop g).pushFrame (.throwing b)) ↔ Q (.found pc) d acts (((U.setTop g).pushFrame (.throwing b)).setVm vm'))
    (hrest : Steps p.tables e below ((U.setVm vm').setTop { g with pc := pc, stack := [.ref b] }) target) : Steps p.tables e below ((U.setTop g).pushFrame (.throwing b)) target := by
  obtain ⟨hgo, hw⟩ := h.throwing b
  refine Steps.head hgo hw ?_
  rw [stepThread_throwing (frames_entered h.top _), sm_catch_step hfind]
  obtain ⟨g₀, hg⟩ := Option.isSome_iff_exists.mp h.top
  obtain ⟨rs, hr⟩ := State.topJava?_eq_some.mp hg
  have hr' : (U.setVm vm').frames = .java g₀ :: rs := hr
  rw [State.setTop_of_frames _ hr'] at hrest
  have : ((U.setTop g).pushFrame (.throwing b)).setVm vm' = (((U.setVm vm').setTop g).pushFrame (.throwing b)) := by
    rw [State.pushFrame, State.pushFrame, State.setTop_of_frames _ hr, State.setTop_of_frames _ hr']
    rfl
  rw [this, State.pushFrame, State.setFrames_setFrames, State.setTop_of_frames _ hr', State.setFrames_setFrames, hr]
  exact hrest
end
