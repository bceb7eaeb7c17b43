section
theorem sm_HR0 {E : sm_G} (hE : E.1 = E.2.2.2.2.2.2.2.2.size) : sm_HR E false sm_0 E.2.2.2.2.2.2.2.2 :=
  ⟨hE.symm, fun q hq => rfl, fun t i _ hi => absurd hi (Nat.not_lt_zero i), fun t i t' i' _ hi => absurd hi (Nat.not_lt_zero i), fun t i k _ => ⟨rfl, rfl, rfl⟩, fun t i k => Or.inl rfl, fun h => by cases h⟩
theorem whole_start (hG : ∀ X : Nat × (Nat → Int32), X.1 ≤ 3072 → sm_GOAL X) {p : Program} {e : Env} {s : State} {m : MethodId} {below : List Frame} {meth : Method} {c : Code} (l : Launch) (hfl : l.flags = pinnedFlags ++ [noTraceFlag]) {b L : Nat} {xs : Nat → Int32} (hL : L ≤ 3072) (C0 : lw_At p s m meth c b L xs) (hex0 : c.exceptionTable.toList = []) : W p l e room_1 s m #[Value.ref b] below meth c s.heap [] 0 0 (lw_Z below #[Value.ref b] s) (entryFrame m ([Value.ref b] : List Value).toArray 4) := by
  obtain ⟨E, hE1, hE2, hE3, hEF⟩ := sm_EF0 C0
  obtain ⟨hx, hb, hr, hml, hown, hts, hX, hbl, hlocks, hgv⟩ := C0
  obtain ⟨d, s', hd, hrun, hcells, hslots⟩ := hG (L, xs) hL
  obtain ⟨n, hrun⟩ := sm_go_some.mp hrun
  have hwd : ∀ w ∈ sm_wd, w.before #[Value.ref b] s = true := fun w hw => hts w (List.mem_filter.mp hw).1
  have hcx : sm_Cx E (L, xs) p s m #[Value.ref b] meth c 308 := ⟨hx, hb, hml, hown, hwd, hEF, hlocks, hr, (fun h => (by have h : (1 : Nat) = 2 := h; omega)), (fun _ => hex0), (fun h => (by have h : (308 : Nat) = 280 := h; omega))⟩
  have hlow0 : ∀ q, ¬ E.1 ≤ q → s.heap[q]? = E.2.2.2.2.2.2.2.2[q]? := fun q _ => by rw [hE3]
  have hK := sm_all (l := l) (R := room_1) (e := e) (below := below) (r := (some (some (vI 1)), s')) (c0 := 0) (s0 := 0) hcx hfl hlow0 (sm_metL hfl d) ⟨by show d + 6 + 1 ≤ 2048; omega, by show 60 * d + 100 + 60 ≤ 84000; omega⟩ ⟨by show 6 ≤ 2048; omega, by show 100 ≤ 84000; omega⟩ (sm_callL_mo d) (sm_callL_k d) ⟨by show sm_cells s' ≤ 0 + 601024; omega, by show sm_slots s' ≤ 0 + 7293033; omega⟩ sm_ckl n
  have ho := hEF.2.2.2.2.2.2.2.2.2.2.2.2
  have hH : sm_HR E false sm_0 s.heap := by
    rw [← hE3]
    exact sm_HR0 (by rw [hE3]; exact hE1)
  have hLR := sm_ent_LR (E := E) (σ := sm_0) (k := 308) (As := [vP (4, 0)]) ho (fun v hv => by rcases List.mem_singleton.mp hv with rfl; exact Or.inr (Or.inl rfl)) (by show 1 ≤ 4; omega)
  have hW := hK 0 [vP (4, 0), vU, vU, vU] [] sm_0 s.heap [] _ hrun hH hLR (fun v hv => by cases hv) (fun q hq => by cases hq) (Nat.le_refl _) (Nat.le_refl _)
  intro T hT Y
  obtain ⟨t, a1, o, b1, b2, ⟨b3, b4⟩, Lc, ⟨b5, b6⟩, b7⟩ := hW T hT Y
  obtain ⟨b3, -⟩ := b3
  have hb3 : o = .returned (some (.int 1)) := b3
  refine ⟨t, ?_, o, b1, b2, hb3, ⟨_, hb3⟩, b5, ?_⟩
  · rw [lg_entry_eq]
    have e1 : sm_rv E (sm_ad sm_0) (vP (4, 0)) = Value.ref b := by
      show va_rf (some E.2.1) = _
      rw [hE2]; rfl
    have a1 : Steps p.tables e below (T.setTop (F0 m 0 ((lg_sl [sm_rv E (sm_ad sm_0) (vP (4, 0))] ++ List.replicate (4 - (lg_sl [sm_rv E (sm_ad sm_0) (vP (4, 0))]).length) Slot.unset).toArray) [])) t := a1
    rw [e1] at a1
    exact a1
  · obtain ⟨c1, c2, c3, c4, c5, c6⟩ := b6
    refine ⟨c1, c2, ?_, c4, ?_, fun a cc hcc => ?_⟩
    · have : sm_cells s' - 0 ≤ 601024 := by omega
      exact Nat.le_trans c3 (Nat.add_le_add_left this _)
    · have : sm_slots s' - 0 ≤ 7293033 := by omega
      exact Nat.le_trans c5 this
    · obtain ⟨c', d1, d2, d3, d4⟩ := c6 a cc hcc
      refine ⟨c', d1, d2, d3, fun i _ => d4 i fun hm => ?_⟩
      have h1 := b7 _ hm
      have h2 := (Array.getElem?_eq_some_iff.mp hcc).1
      rw [hE1] at h1
      exact absurd h2 (Nat.not_lt.mpr h1)
set_option maxHeartbeats 4000000 in
theorem lw_walk (hG : ∀ X : Nat × (Nat → Int32), X.1 ≤ 3072 → sm_GOAL X) (l : Launch) (hfl : l.flags = pinnedFlags ++ [noTraceFlag]) (b : Addr) (xs : List Int32) : MetFree l x (headSpec (Jvm.Cond.code x code maxLocals ret :: tables_1) room_1) (lw_P b xs) (fun _ _ _ _ _ => True) lw_Q := by
  refine MetFree.of_bodyS (code := code) (maxLocals := maxLocals) (ret := ret) (by decide) ?_ ?_
  · intro args s m h hn
    obtain ⟨meth, c, h1, h2, h3, h4, h5, h6, -, -⟩ := Cond.code_spec hn (atoms_spec (ws := Jvm.Cond.code x code maxLocals ret :: tables_1) h _ List.mem_cons_self)
    exact ⟨meth, c, h1, h2, h3, h4, h5, h6⟩
  · intro p e s m args below meth c s₁ B hml0 hP _
    obtain ⟨rfl, hx, hbd, hgv⟩ := hP
    obtain ⟨scr, harrAt, hlist, hof, hsmall⟩ := hx
    obtain ⟨hcb, hkn, -, -⟩ := State.arrayAt?_spec harrAt
    have hown : s.vm.findClass R_law = some m.cls := findClass_of_methodNamed B.named
    have hts0 : ∀ c ∈ (Jvm.Cond.code x code maxLocals ret :: tables_1), c.before #[Value.ref b] s = true := atoms_spec (ws := Jvm.Cond.code x code maxLocals ret :: tables_1) B.pre
    have hts : ∀ w ∈ lw_tbl, w.before #[Value.ref b] s = true := k2_hts_sels lw_privs (fun w hw => hts0 w (List.mem_cons_of_mem _ hw)) lw_privs_ok
    have hml : c.maxLocals = 4 := B.maxLocals_eq (hts0 _ List.mem_cons_self)
    have X₀ : Stand p l e room_1 s m #[Value.ref b] below meth c s₁ [] 0 0 := Stand.of_body B
    have hh0 : s₁.heap = s.heap := by rw [B.state]; rfl
    have hsz : scr.slots.size = xs.length := by rw [← Array.length_toList, hlist, List.length_map]
    have hval : ∀ j : Nat, j < xs.length → scr.slots[j]? = some (.int (xs.getD j 0)) := fun j hj => by
      rw [← Array.getElem?_toList, hlist]
      simp [hj]
    have hbl : b < s.heap.size := (Array.getElem?_eq_some_iff.mp hcb).1
    have hX : va_X b xs.length (fun j => xs.getD j 0) s s.heap := ⟨scr, hcb, hof, hkn, hsz, hval⟩
    have K : W p l e room_1 s m #[Value.ref b] below meth c s₁.heap [] 0 0 (lw_Z below #[Value.ref b] s) (entryFrame m ([Value.ref b] : List Value).toArray 4) := by
      rw [hh0]
      obtain ⟨meth', c', e1, e2, -, -, -, -, e7, -⟩ := Cond.code_spec B.named (hts0 _ List.mem_cons_self)
      cases B.method.symm.trans e1
      cases X₀.code.symm.trans e2
      exact whole_start hG l hfl hbd ⟨B.exec, B.bytes, B.returns, hml, hown, hts, hX, hbl, B.notSynchronized, hgv⟩ (by rw [Array.isEmpty_iff.mp e7])
    obtain ⟨t, a1, o, b1, b2, b3⟩ := K s₁ rfl X₀
    exact ⟨t, o, a1, b1, b2, b3⟩
theorem lw_pre_spec {args : Array Value} {s : State} (h : (Jvm.Cond.and given_1 narrow_1).before args s = true) (hr : rest_1_c.before args s = true) : ∃ (b : Addr) (xs : List Int32), lw_P b xs args s := by
  have hs := flat_of_before _ h
  have hq := flat_of_before _ hr
  have hc : (Cond.count 1).before args s = true := hs _ (by decide +kernel)
  have harr : (Cond.arrayOf (.arg 0) .int).before args s = true := hs _ (by decide +kernel)
  have hle : (Cond.le (.length (.arg 0)) (.int 3072)).before args s = true := hs _ (by decide +kernel)
  have hlen : (Cond.isInt (.length (.arg 0))).before args s = true := hq _ (by decide +kernel)
  have hall : (Cond.all (.arg 0) (.isInt (.elem (.arg 0) (.index 0)))).before args s = true := hq _ (by decide +kernel)
  obtain ⟨b, xs, hb, hx⟩ := State.ints_of_pre rfl harr hlen hall
  have hsm : xs.length < 2 ^ 31 := hx.choose_spec.2.2.2
  have hev : (Term.length (.arg 0)).eval args s none [] s = some (.int xs.length.toInt32) := hx.length_eval hb
  have hv := Cond.le_ints hev (show (Term.int 3072).eval args s none [] s = some (.int 3072) from rfl)
  have hd : xs.length.toInt32 ≤ 3072 := by
    simpa [Cond.before, Cond.holds, hv] using hle
  have hN : xs.length ≤ 3072 := (Int32.ofNat_le_ofNat hsm (by decide)).mp (show Int32.ofNat xs.length ≤ Int32.ofNat 3072 from hd)
  exact ⟨b, xs, Cond.one_arg hc (show args[0]? = some (.ref b) from hb), hx, hN, h⟩
theorem lw_comes (hG : ∀ X : Nat × (Nat → Int32), X.1 ≤ 3072 → sm_GOAL X) (l : Launch) (hfl : l.flags = pinnedFlags ++ [noTraceFlag]) : Comes l x (Jvm.Cond.code x code maxLocals ret :: tables_1) room_1 (fun tb e args s => Calls_1 tb e args s ∧ rest_1 tb e args s ∧ Pre_1 tb e args s)
    (fun _ _ args s o t => lw_Q args s o t) := by
  intro p e ha hc hk s m args below hf hfit hheap happ hpre
  obtain ⟨b, xs, hP⟩ := lw_pre_spec hpre.2.2 hpre.2.1
  obtain ⟨k, o, h1, h2, h3, hQ⟩ := lw_walk hG l hfl b xs p e ha hc hk s m args below hf ((Spec.applies_iff_loose hf).mp happ).1 hP trivial
  exact ⟨k, o, h1, h2, h3, hQ⟩
theorem lw_frame {s t : State} {o : Outcome} {args : Array Value} (h : Framed s o t [] 601024 7293033) :
    Framed s o t (fieldLocs frame_1_writes args s ++ arrayLocs frame_1_arrays args s ++ staticLocs frame_1_statics s) 601024 7293033 := h
theorem lw_limb (hG : ∀ X : Nat × (Nat → Int32), X.1 ≤ 3072 → sm_GOAL X) (L : Cond) (hL : ∀ (args : Array Value) (s t : State), L.after args s (.returned (some (.int 1))) t = true) :
    ArmFor flags0 classFile x code maxLocals ret World_1 tables_1 room_1 Calls_1 rest_1 Pre_1
      (fun tb e a s o t => postC L tb e a s o t ∧ Framed s o t (fieldLocs frame_1_writes a s ++ arrayLocs frame_1_arrays a s ++ staticLocs frame_1_statics s) 601024 7293033) := by
  intro l hfl _ _ p e ha hc hk s m args below hf hfit hheap happ hpre
  obtain ⟨k, o, h1, h2, h3, rfl, hF⟩ := lw_comes hG l hfl p e ha hc hk s m args below hf hfit hheap happ hpre
  exact ⟨k, _, h1, h2, h3, hL args s _, lw_frame hF⟩
theorem i_vc_of (hG : ∀ X : Nat × (Nat → Int32), X.1 ≤ 3072 → sm_GOAL X) : Claimed_1_1 ∧ Claimed_1_2 := ⟨lw_limb hG limb_1_1 (fun args s t => by simp [limb_1_1, Cond.after, Cond.holds, Cond.value]), lw_limb hG limb_1_2 (fun args s t => Cond.after_iff.mpr (by
  first | (rw [show limb_1_2 = Cond.eq .result (.int 1) from rfl, Cond.eq_ints (x := 1) (y := 1) rfl rfl]; simp; done) | (simp [limb_1_2, Cond.value, Term.eval]; done)))⟩
end
