section
variable {E : sm_G} {X : Nat × (Nat → Int32)} {w : Bool} {p : Program} {l : Launch} {e : Env} {R : Room} {s : State} {m : MethodId} {args : Array Value} {below : List Frame} {meth : Method} {c : Code} {mn : Nat} {C : sm_C} {r : sm_O × sm_S} {c0 s0 : Nat} {Q : State → Prop} {n pc : Nat} {a : Nat × Nat × Nat × Nat} {L S : List sm_V} {σ : sm_S} {hx : sm_S → sm_R} {H : Heap} {locs : List Loc} {ls : Array Slot}
def sm_exA : List Cond := Bundle.ownAtoms "FreightYardsModel" 646 "java/lang/IllegalStateException" ["java/lang/RuntimeException", "java/lang/Exception"]
def sm_isRf : Cond → Bool
  | .isRef _ => true
  | .laysStatic .. => true
  | .declares _ => true
  | .castable .. => true
  | _ => false
theorem sm_exA_gd : sm_exA.all (fun u => sm_isRf u || goodWord u) = true := by decide +kernel
theorem sm_exA_in : sm_exA.all (fun u => sm_isRf u || (decide (u ∈ lw_tbl) && goodWord u)) = true := by decide +kernel
theorem sm_exw (hts : ∀ u ∈ sm_wd, u.before args s = true) {u : Cond} (hu : u ∈ sm_exA) (hn : sm_isRf u = false) : u.before args s = true := by
  have h := List.all_eq_true.mp sm_exA_in u hu
  rw [hn, Bool.false_or, Bool.and_eq_true, decide_eq_true_eq] at h
  exact hts u (sm_inw h.1 h.2)
theorem sm_646 : (sm_ml.filter (fun q => q.2.2.1 == 1001)).all (fun q => q.1 == 13 && q.2.1 == 646) = true := by decide +kernel
set_option maxHeartbeats 2000000 in
/-- IllegalStateException's <init>, where no trace is kept -/
theorem sm_made {T0 : State} {cells slots : Nat} (Y : Stand p l e R s m args below meth c T0 locs cells slots) (hexec : p.tables.exec = Jvm.exec) (htr : e.platform.stackTraces = false) (hown : s.vm.findClass "FreightYardsModel" = some m.cls) (hts : ∀ u ∈ sm_wd, u.before args s = true) (hEF : sm_EF E X s) (hlow0 : ∀ q, ¬ E.1 ≤ q → s.heap[q]? = E.2.2.2.2.2.2.2.2[q]?) (hlow : ∀ q, ¬ E.1 ≤ q → T0.heap[q]? = E.2.2.2.2.2.2.2.2[q]?)
    {b : Nat} (hbE : E.1 ≤ b) {cell : Cell} (hcell : T0.heap[b]? = some cell) (hcl : cell.cls = E.2.2.2.2.2.2.2.1 24) (hvm : cell.vm = .none) (hmo : cell.monitor = {}) (hsz : cell.slots.size = 6) (hbt : cell.slots[E.2.2.2.2.2.2.1.2 14 0]? = some .null)
    {msg : Value} (hmsg : msg.isRef = true) {g : JFrame} (hg : g.method = m) (hsize : g.locals.size = c.maxLocals) {rest : List Value} (hstack : g.stack = msg :: .ref b :: rest) (hd : decode c.code g.pc = .ok (.invokespecial 646, 3)) (hRf : 6 ≤ R.frames) (hRl : 2 * g.monitorRoom + (rest.map fun v => v.category).sum + 81 ≤ R.locals) :
    ∃ (vm' : Vm) (cell' : Cell) (Lc : List Loc), Stand p l e R s m args below meth c ((T0.setVm vm').setCell b cell') (locs ++ Lc) cells slots ∧ (∀ q ∈ Lc, q.base = b) ∧ cell'.cls = E.2.2.2.2.2.2.2.1 24 ∧ cell'.vm = .none ∧ cell'.monitor = {} ∧ cell'.slots.size = 6 ∧ cell'.slots[E.2.2.2.2.2.2.1.2 14 0]? = some .null ∧
      ∀ target, Steps p.tables e below (((T0.setVm vm').setCell b cell').setTop { g with pc := g.pc + 3, stack := rest }) target → Steps p.tables e below (T0.setTop g) target := by
  have howns : e.platform.frameOwnsMonitors = true := by rw [Y.admits.platform]
  have hfin : e.platform.finalization = false := by rw [Y.admits.platform]
  have hpl : e.platform.magicAccessors = ({} : Platform).magicAccessors := by rw [Y.admits.platform]
  have aw : ∀ u, u ∈ sm_exA → sm_isRf u = false → u.holds args s none s [] = true := fun u hu hn => sm_exw hts hu hn
  have ls : ∀ n d, sm_LS n d E s → (Cond.laysStatic "java/lang/Throwable" n d).before args s = true := by
    intro n d h
    obtain ⟨c, k, i, f, a, cell, u, h1, h2, h3, h4, h5, h6, h7, h8, h9, -, -, h10⟩ := h
    exact Cond.laysStatic_of h1 h2 h3 h4 (by rw [hlow0 a h10]; exact h5) h6 h7 h8 h9
  obtain ⟨hfE, hslB, hLu, hLs, hDc⟩ := hEF.2.2.2.2.2.2.2.2.2.2.2.1
  obtain ⟨T, Z0, L, -, Yt⟩ := ThrowableC.of_atoms (args := args) howns hfin hpl (fun u hu => by
    cases hn : sm_isRf u with
    | false => exact aw u (by simp [sm_exA, Bundle.ownAtoms, hu]) hn
    | true =>
      have h2 := List.all_eq_true.mp (show Bundle.throwableAtoms.all (fun u => !(sm_isRf u) || (decide (u = Cond.laysStatic "java/lang/Throwable" "UNASSIGNED_STACK" "[Ljava/lang/StackTraceElement;") || decide (u = Cond.laysStatic "java/lang/Throwable" "SUPPRESSED_SENTINEL" "Ljava/util/List;"))) = true by decide +kernel) u hu
      rw [hn] at h2
      simp only [Bool.not_true, Bool.false_or, Bool.or_eq_true, decide_eq_true_eq] at h2
      rcases h2 with rfl | rfl
      · exact ls _ _ hLu
      · exact ls _ _ hLs)
  obtain ⟨Z, M, LZ, LM, hnZ⟩ := Init0T.ofS_atoms (args := args) hpl L Yt (fun u hu => aw u (by simp [sm_exA, Bundle.ownAtoms, hu]) (by
    have := List.all_eq_true.mp (show Bundle.throwableSAtoms.all (fun u => !(sm_isRf u)) = true by decide +kernel) u hu
    simpa using this))
  obtain ⟨P1, Ps, hlen, L1, hL, hP1m, hlink1, hlink⟩ := Bundle.chainS (args := args) hpl hnZ ["java/lang/RuntimeException", "java/lang/Exception"] "java/lang/IllegalStateException" (by decide +kernel) (by decide +kernel) (fun u hu => by
    cases hn : sm_isRf u with
    | false => exact aw u (by simp [sm_exA, Bundle.ownAtoms, hu]) hn
    | true =>
      have h2 := List.all_eq_true.mp (show (Bundle.chainSAtoms "java/lang/IllegalStateException" ["java/lang/RuntimeException", "java/lang/Exception"]).all (fun u => !(sm_isRf u) || sm_dc.any (fun y => decide (u = Cond.declares y))) = true by decide +kernel) u hu
      rw [hn] at h2
      simp only [Bool.not_true, Bool.false_or] at h2
      obtain ⟨y, hy, h3⟩ := List.any_eq_true.mp h2
      rw [of_decide_eq_true h3]
      exact va_Nw.use rfl (hDc y hy))
  have hfound : s.vm.findClass "java/lang/IllegalStateException" = some P1.m.cls := findClass_of_methodNamed hP1m
  have hcP : E.2.2.2.2.2.2.2.1 24 = P1.m.cls := Option.some.inj (hfE.symm.trans hfound)
  rw [hcP] at hcl ⊢
  obtain ⟨c1, kX, hc1, hk, hord, -, -, hn6⟩ := Cond.instantiable_spec (aw (.instantiable "java/lang/IllegalStateException" 6) (by simp [sm_exA, Bundle.ownAtoms]) rfl)
  cases Option.some.inj (hc1.symm.trans hfound)
  have hsel0 : selectMethod e.platform s.vm cell.cls T.fill0 = .method T.fill0 := by
    obtain ⟨c2, r2, m2, q1, q2, q3, q4, -⟩ := Cond.selects_spec (aw (.selects "java/lang/IllegalStateException" Bundle.tFill0 Bundle.tFill0) (by simp [sm_exA, Bundle.ownAtoms]) rfl)
    cases Option.some.inj (q1.symm.trans hfound)
    cases Option.some.inj (q2.symm.trans (State.methodFound?_of_named Yt.fill0 (by decide)))
    cases Option.some.inj (q3.symm.trans Yt.fill0)
    rw [Launch.admits_selectMethod Y.admits, hcl]; exact q4
  have hselF : selectMethod e.platform s.vm cell.cls T.fill = .method T.fill := by
    obtain ⟨c2, r2, m2, q1, q2, q3, q4, -⟩ := Cond.selects_spec (aw (.selects "java/lang/IllegalStateException" Bundle.tFill Bundle.tFill) (by simp [sm_exA, Bundle.ownAtoms]) rfl)
    cases Option.some.inj (q1.symm.trans hfound)
    cases Option.some.inj (q2.symm.trans (State.methodFound?_of_named Yt.fill (by decide)))
    cases Option.some.inj (q3.symm.trans Yt.fill)
    rw [Launch.admits_selectMethod Y.admits, hcl]; exact q4
  obtain ⟨cu, ku, iu, fu, au, cellS, uu, -, z1, -, z4, z5, z6, -, -, -, z7, hur, hnA⟩ := hLu
  cases Option.some.inj (z1.symm.trans Yt.unassigned)
  cases Option.some.inj (z4.symm.trans L.statics)
  obtain ⟨cs, ks, is, fs, as, cellS2, us, -, y1, -, y4, y5, y6, -, -, -, y7, hsr, -⟩ := hLs
  cases Option.some.inj (y1.symm.trans Yt.sentinel)
  cases Option.some.inj (y4.symm.trans L.statics)
  cases Option.some.inj (y5.symm.trans z5)
  have hcellS : T0.heap[T.aS]? = some cellS := by rw [hlow _ hnA]; exact z5
  have hneS : T.aS ≠ b := fun q => hnA (by rw [q]; exact hbE)
  have hknownS : cellS.vm ≠ .unknown := fun q => by rw [q] at z6; cases z6
  obtain ⟨ci198, i198, fB, hk198, hg198, ha198, hsB, -, hnB, htB, hffB⟩ := Cond.ownField (t := .object "java/lang/Object") Yt.found L.cls (by decide +kernel) (aw (.fieldLink Bundle.tN 198 Bundle.tN "backtrace" "Ljava/lang/Object;") (by simp [sm_exA, Bundle.ownAtoms]) rfl) (aw (.lays Bundle.tN Bundle.tN "backtrace" "Ljava/lang/Object;") (by simp [sm_exA, Bundle.ownAtoms]) rfl) e.platform hpl
  obtain ⟨cfB, kfB, fiB, fB2, hfB2, hslot⟩ := hslB
  cases Option.some.inj (hfB2.symm.trans hffB)
  rw [← hslot] at hbt ⊢
  obtain ⟨iM, hffM⟩ := Yt.msg
  obtain ⟨tyC, dC, hdC, hdnC⟩ := Cond.laysAt hfound hk Yt.cause (aw (.lays "java/lang/IllegalStateException" Bundle.tN "cause" "Ljava/lang/Throwable;") (by simp [sm_exA, Bundle.ownAtoms]) rfl)
  obtain ⟨tyS, dS, hdS, hdnS⟩ := Cond.laysAt hfound hk Yt.stack (aw (.lays "java/lang/IllegalStateException" Bundle.tN "stackTrace" Bundle.steD) (by simp [sm_exA, Bundle.ownAtoms]) rfl)
  obtain ⟨tyP, dP, hdP, hdnP⟩ := Cond.laysAt hfound hk Yt.supp (aw (.lays "java/lang/IllegalStateException" Bundle.tN "suppressedExceptions" Bundle.listD) (by simp [sm_exA, Bundle.ownAtoms]) rfl)
  obtain ⟨tyM, dM, hdM, hdnM⟩ := Cond.laysAt hfound hk hffM (aw (.lays "java/lang/IllegalStateException" Bundle.tN "detailMessage" "Ljava/lang/String;") (by simp [sm_exA, Bundle.ownAtoms]) rfl)
  obtain ⟨tyB, dB, hdB, hdnB⟩ := Cond.laysAt hfound hk hffB (aw (.lays "java/lang/IllegalStateException" Bundle.tN "backtrace" "Ljava/lang/Object;") (by simp [sm_exA, Bundle.ownAtoms]) rfl)
  have hnM : T.fMsg.name = "detailMessage" := (State.fieldFound?_type hffM (t := .object "java/lang/String") (by decide +kernel)).1
  have bC := Cond.laysApart hdB hdC hdnB hdnC (by rw [hnB, Yt.causeName]; decide)
  have bS := Cond.laysApart hdB hdS hdnB hdnS (by rw [hnB, Yt.stackName]; decide)
  have bP := Cond.laysApart hdB hdP hdnB hdnP (by rw [hnB, Yt.suppName]; decide)
  have bM := Cond.laysApart hdB hdM hdnB hdnM (by rw [hnB, hnM]; decide)
  have hskip : SkipFacts T e.platform s (fun u => u) ⟨uu, hur⟩ ((preparedCellV T.toThrowableT cell b ⟨uu, hur⟩ ⟨us, hsr⟩).withEntry T0.cur) :=
    ⟨{ ci198 := ci198, i198 := i198, fBack := fB }, ⟨hk198, hg198, ha198, hsB⟩, by
      simpa [preparedCellV, Cell.setSlot, Cell.withEntry, Array.getElem?_setIfInBounds, bC, bS, bP, bC.symm, bS.symm, bP.symm] using hbt, fun _ _ => rfl⟩
  have tk : ∀ {f : Field} {v : Value}, kX.instanceTypes[f.slot]? = some f.type → fits f.type v = true → Takes s cell f v := by
    intro f v hty hv
    obtain ⟨q1, q2⟩ := Takes.of_laid (s := s) hk hord hty hv
    refine ⟨?_, by rw [hcl, hvm]; exact q2⟩
    rw [hsz, ← hn6]
    simpa using q1
  obtain ⟨tm, methC, cdC, kC, vm₁, hnC, -, -, -, -, -, -, -, hW₁, st1⟩ := Steps.initColdS (tb := p.tables) (e := e) (below := below) (s := s) (U := T0) Y.here hexec Y.warmed hpl hown (t := Bundle.initS "java/lang/IllegalStateException") rfl rfl (by decide +kernel)
    (aw (.methodLink "FreightYardsModel" 646 (Bundle.initS "java/lang/IllegalStateException")) (by simp [sm_exA, Bundle.ownAtoms]) rfl) (aw (.instanceMethod (Bundle.initS "java/lang/IllegalStateException")) (by simp [sm_exA, Bundle.ownAtoms, Bundle.chainSAtoms, Bundle.passSAtoms]) rfl) (bytes := Bundle.six) (maxL := 2) (aw (.code (Bundle.initS "java/lang/IllegalStateException") Bundle.six 2 none) (by simp [sm_exA, Bundle.ownAtoms, Bundle.chainSAtoms, Bundle.passSAtoms]) rfl)
    (f := g) hg (a := b) (msg := msg) (rest := rest) hstack hd
  cases Option.some.inj (hnC.symm.trans hP1m)
  have Y₁ := Y.noted hW₁
  obtain ⟨vm₂, Y₂, st2⟩ := Y₁.ctorMessageOffV hexec (g := { g with stack := rest }) hg hsize T L Z LZ M LM (P1 :: Ps)
    (fun P hP => by rcases List.mem_cons.mp hP with rfl | hP; exact L1; exact hL P hP) ⟨hlink1, hlink⟩ (u0 := ⟨uu, hur⟩) (sen := ⟨us, hsr⟩) (self := b) hmsg (cell := cell) (cellS := cellS)
    hcell (fun k q => by rw [hvm] at q; cases q) (fun q => by rw [hvm] at q; cases q) (by rw [hmo]) (by rw [hmo]) hsel0 hselF hcellS hneS hknownS z7 y7
    (tk tyC (by rw [Yt.causeType]; rfl)) (tk tyS (by rw [Yt.stackType]; exact fits_refV_array _ ⟨uu, hur⟩)) (tk tyP (by rw [Yt.suppType]; exact fits_refV_object _ ⟨us, hsr⟩))
    (tk tyM (by rw [Yt.msgType]; exact fits_refV_object _ ⟨msg, hmsg⟩)) Yt.objLocals hskip htr [] hd
    (by simp only [List.length_cons, hlen]; show 3 + 2 < R.frames; omega) (by simp only [List.length_cons, hlen]; show 2 * g.monitorRoom + (rest.map fun v => v.category).sum + (13 * 3 + 42) ≤ R.locals; omega)
  refine ⟨vm₂, _, _, Y₂, ?_, hcl, hvm, hmo, ?_, ?_, fun target ht => st1 _ (fun acts => ?_)⟩
  · intro q hq
    simp only [List.mem_cons, List.not_mem_nil, or_false] at hq
    rcases hq with rfl | rfl | rfl | rfl | rfl <;> rfl
  · simp [plainBareV, preparedCellV, Cell.setSlot, hsz]
  · simpa [plainBareV, preparedCellV, Cell.setSlot, Array.getElem?_setIfInBounds, bC, bS, bP, bM, bC.symm, bS.symm, bP.symm, bM.symm] using hbt
  · rw [doInvoke_state]
    exact st2 _ ht
end
