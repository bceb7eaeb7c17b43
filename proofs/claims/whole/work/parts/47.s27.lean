section
variable {E : sm_G} {X : Nat × (Nat → Int32)} {w : Bool} {l : Launch}
/-- the locals with which a method begins -/
def sm_lay : List sm_V → List sm_V
  | [] => []
  | v :: r => bif sm_isL v then v :: vU :: sm_lay r else v :: sm_lay r
def sm_ent (k : Nat) (As : List sm_V) : List sm_V := sm_lay As ++ List.replicate (sm_nl k - (sm_lay As).length) vU
/-- all methods, calls nested at most so deep -/
noncomputable def sm_callM (X : Nat × (Nat → Int32)) (w : Bool) : Nat → sm_C
  | 0 => fun _ _ _ => none
  | d + 1 => fun k As σ => if k < 308 ∧ (sm_lay As).length ≤ sm_nl k then sm_go (sm_ZZ X) sm_PP w (sm_callM X w d) k 0 (sm_ent k As) [] σ else none
theorem sm_callM_k {d k : Nat} {As : List sm_V} {σ : sm_S} {r : sm_O × sm_S} (h : sm_callM X w d k As σ = some r) : k < 308 := by
  cases d with
  | zero => cases h
  | succ d =>
    have h : (if k < 308 ∧ (sm_lay As).length ≤ sm_nl k then sm_go (sm_ZZ X) sm_PP w (sm_callM X w d) k 0 (sm_ent k As) [] σ else none) = some r := h
    by_cases hk : k < 308 ∧ (sm_lay As).length ≤ sm_nl k
    · exact hk.1
    · rw [if_neg hk] at h; cases h
theorem sm_callM_s {d k : Nat} {As : List sm_V} {σ : sm_S} {r : sm_O × sm_S} (h : sm_callM X w (d + 1) k As σ = some r) : k < 308 ∧ (sm_lay As).length ≤ sm_nl k ∧ sm_go (sm_ZZ X) sm_PP w (sm_callM X w d) k 0 (sm_ent k As) [] σ = some r := by
  have h : (if k < 308 ∧ (sm_lay As).length ≤ sm_nl k then sm_go (sm_ZZ X) sm_PP w (sm_callM X w d) k 0 (sm_ent k As) [] σ else none) = some r := h
  by_cases hk : k < 308 ∧ (sm_lay As).length ≤ sm_nl k
  · rw [if_pos hk] at h; exact ⟨hk.1, hk.2, h⟩
  · rw [if_neg hk] at h; cases h
theorem sm_callM_mo : ∀ (d : Nat) (m : Nat) (a : List sm_V) (s : sm_S) (o : sm_O) (t : sm_S), sm_callM X w d m a s = some (o, t) → sm_mo s t
  | 0, _, _, _, _, _, h => by cases h
  | d + 1, m, a, s, o, t, h => by
    obtain ⟨-, -, h⟩ := sm_callM_s h
    obtain ⟨n, h⟩ := sm_go_some.mp h
    exact sm_run_mo (sm_callM_mo d) n h
/-- the locals laid out, the small ones and the real ones -/
theorem sm_lay_nth {ad : Nat → Nat → Nat} {f : sm_V → Value} (hf : ∀ v, (f v).category = sm_cat1 v) : ∀ (As : List sm_V) (j i : Nat), sm_nth (sm_lay As) i ≠ vU → (j + i, f (sm_nth (sm_lay As) i)) ∈ lv_args j (As.map f)
  | [], j, i, h => absurd rfl h
  | v :: r, j, i, h => by
    have hc := hf v
    cases hv : sm_isL v with
    | true =>
      have e : sm_lay (v :: r) = v :: vU :: sm_lay r := by rw [sm_lay, hv]; rfl
      have h2 : (f v).category = 2 := by
        rw [hc]
        rcases v with x | x | x | x <;> first | rfl | cases hv
      rw [e] at h ⊢
      show _ ∈ (j, f v) :: lv_args (if (f v).category = 2 then j + 2 else j + 1) (r.map f)
      rw [if_pos h2]
      rcases i with _ | _ | i
      · exact List.mem_cons_self
      · exact absurd rfl h
      · have := sm_lay_nth (ad := ad) hf r (j + 2) i h
        rw [show j + 2 + i = j + (i + 1 + 1) by omega] at this
        exact List.mem_cons_of_mem _ this
    | false =>
      have e : sm_lay (v :: r) = v :: sm_lay r := by rw [sm_lay, hv]; rfl
      have h2 : ¬ (f v).category = 2 := by
        rw [hc]
        rcases v with x | x | x | x <;> first | (cases hv; done) | (intro q; cases q)
      rw [e] at h ⊢
      show _ ∈ (j, f v) :: lv_args (if (f v).category = 2 then j + 2 else j + 1) (r.map f)
      rw [if_neg h2]
      rcases i with _ | i
      · exact List.mem_cons_self
      · have := sm_lay_nth (ad := ad) hf r (j + 1) i h
        rw [show j + 1 + i = j + (i + 1) by omega] at this
        exact List.mem_cons_of_mem _ this
theorem sm_lay_len {f : sm_V → Value} (hf : ∀ v, (f v).category = sm_cat1 v) : ∀ (As : List sm_V), (lg_sl (As.map f)).length = (sm_lay As).length
  | [] => rfl
  | v :: r => by
    have ih := sm_lay_len hf r
    have hc := hf v
    have e : lg_sl ((v :: r).map f) = (if (f v).category = 2 then [.val (f v), .second] else [.val (f v)]) ++ lg_sl (r.map f) := rfl
    rw [e, List.length_append, ih]
    rcases v with x | x | x | x
    · rw [if_neg (by rw [hc]; exact fun q => by cases q)]; show 1 + _ = _ + 1; omega
    · rw [if_pos (by rw [hc]; rfl)]; show 2 + _ = _ + 1 + 1; omega
    · rw [if_neg (by rw [hc]; exact fun q => by cases q)]; show 1 + _ = _ + 1; omega
    · rw [if_neg (by rw [hc]; exact fun q => by cases q)]; show 1 + _ = _ + 1; omega
theorem sm_nth_app : ∀ (L : List sm_V) (n i : Nat), sm_nth (L ++ List.replicate n vU) i = sm_nth L i
  | [], 0, i => rfl
  | [], n + 1, 0 => rfl
  | [], n + 1, i + 1 => sm_nth_app [] n i
  | v :: L, n, 0 => rfl
  | v :: L, n, i + 1 => sm_nth_app L n i
theorem sm_lay_mem : ∀ (As : List sm_V) (i : Nat), sm_nth (sm_lay As) i ≠ vU → sm_nth (sm_lay As) i ∈ As
  | [], i, h => absurd rfl h
  | v :: r, i, h => by
    cases hv : sm_isL v with
    | true =>
      have e : sm_lay (v :: r) = v :: vU :: sm_lay r := by rw [sm_lay, hv]; rfl
      rw [e] at h ⊢
      rcases i with _ | _ | i
      · exact List.mem_cons_self
      · exact absurd rfl h
      · exact List.mem_cons_of_mem _ (sm_lay_mem r i h)
    | false =>
      have e : sm_lay (v :: r) = v :: sm_lay r := by rw [sm_lay, hv]; rfl
      rw [e] at h ⊢
      rcases i with _ | i
      · exact List.mem_cons_self
      · exact List.mem_cons_of_mem _ (sm_lay_mem r i h)
theorem sm_rv_cat (ho : E.2.2.2.2.2.1 = .null ∨ ∃ a, E.2.2.2.2.2.1 = .ref a) {ad : Nat → Nat → Nat} (v : sm_V) : (sm_rv E ad v).category = sm_cat1 v := by
  rcases v with x | x | x | x
  · rfl
  · rfl
  · show (va_rf (sm_rp E ad x)).category = 1
    cases sm_rp E ad x <;> rfl
  · show (E.2.2.2.2.2.1).category = 1
    rcases ho with h | ⟨a, h⟩ <;> rw [h] <;> rfl
theorem sm_ent_LR {σ : sm_S} {k : Nat} {As : List sm_V} (ho : E.2.2.2.2.2.1 = .null ∨ ∃ a, E.2.2.2.2.2.1 = .ref a) (hA : sm_SR σ As) (hl : (sm_lay As).length ≤ sm_nl k) :
    sm_LR E σ (sm_nl k) (sm_ent k As) ((lg_sl (As.map (sm_rv E (sm_ad σ))) ++ List.replicate (sm_nl k - (lg_sl (As.map (sm_rv E (sm_ad σ)))).length) Slot.unset).toArray) := by
  have hlen := sm_lay_len (f := sm_rv E (sm_ad σ)) (sm_rv_cat ho) As
  obtain ⟨h1, h2, h3⟩ := lv_entry (As.map (sm_rv E (sm_ad σ))) (n := sm_nl k) (by rw [hlen]; exact hl)
  refine ⟨h1, h2, fun i hi => ?_⟩
  unfold sm_ent at hi ⊢
  rw [sm_nth_app] at hi ⊢
  have hm := sm_lay_nth (ad := sm_ad σ) (f := sm_rv E (sm_ad σ)) (sm_rv_cat ho) As 0 i hi
  have := h3 _ hm
  rw [show (0 + i, sm_rv E (sm_ad σ) (sm_nth (sm_lay As) i)).1 = i from Nat.zero_add i] at this
  exact ⟨this, hA _ (sm_lay_mem As i hi)⟩
theorem sm_ck (k : Nat) (hk : k < 308) : (sm_cd k).all (sm_okE k) = true := by
  have hd : ∀ a b : Nat, ((List.range b).drop a).all (fun n => (sm_cd n).all (sm_okE n)) = true → a ≤ k → k < b → (sm_cd k).all (sm_okE k) = true := by
    intro a b h h1 h2
    refine List.all_eq_true.mp h k ?_
    refine List.mem_of_getElem? (i := k - a) ?_
    rw [List.getElem?_drop, show a + (k - a) = k by omega, List.getElem?_range h2]
  rcases Nat.lt_or_ge k 44 with h | h
  · exact hd 0 44 sm_ck0 (Nat.zero_le _) h
  rcases Nat.lt_or_ge k 88 with h2 | h2
  · exact hd 44 88 sm_ck1 h h2
  rcases Nat.lt_or_ge k 132 with h3 | h3
  · exact hd 88 132 sm_ck2 h2 h3
  rcases Nat.lt_or_ge k 176 with h4 | h4
  · exact hd 132 176 sm_ck3 h3 h4
  rcases Nat.lt_or_ge k 187 with h5 | h5
  · exact hd 176 187 sm_ck4 h4 h5
  rcases Nat.lt_or_ge k 198 with h6 | h6
  · exact hd 187 198 sm_ck5 h5 h6
  rcases Nat.lt_or_ge k 209 with h7 | h7
  · exact hd 198 209 sm_ck6 h6 h7
  rcases Nat.lt_or_ge k 220 with h8 | h8
  · exact hd 209 220 sm_ck7 h7 h8
  rcases Nat.lt_or_ge k 231 with h9 | h9
  · exact hd 220 231 sm_ck8 h8 h9
  rcases Nat.lt_or_ge k 242 with h10 | h10
  · exact hd 231 242 sm_ck9 h9 h10
  rcases Nat.lt_or_ge k 253 with h11 | h11
  · exact hd 242 253 sm_ck10 h10 h11
  rcases Nat.lt_or_ge k 264 with h12 | h12
  · exact hd 253 264 sm_ck11 h11 h12
  rcases Nat.lt_or_ge k 275 with h13 | h13
  · exact hd 264 275 sm_ck12 h12 h13
  rcases Nat.lt_or_ge k 286 with h14 | h14
  · exact hd 275 286 sm_ck13 h13 h14
  rcases Nat.lt_or_ge k 297 with h15 | h15
  · exact hd 286 297 sm_ck14 h14 h15
  · exact hd 297 308 sm_ck15 h15 hk
theorem sm_ypl : (List.range 308).all (fun k => plainFor (sm_y k) && ((sm_y k).cls == sm_cn (sm_ow k))) = true := by decide +kernel
set_option maxHeartbeats 1000000 in
theorem sm_met (hfl : l.flags = pinnedFlags ++ [noTraceFlag]) : ∀ d, sm_Met l E X w (sm_callM X w d) (d + 6) (60 * d + 100)
  | 0 => by intro k As σ r h; cases h
  | d + 1 => by
    intro k As σ r h
    obtain ⟨hk, hlay, h⟩ := sm_callM_s h
    obtain ⟨n, h⟩ := sm_go_some.mp h
    have hpl := List.all_eq_true.mp sm_ypl k (List.mem_range.mpr hk)
    simp only [Bool.and_eq_true, beq_iff_eq] at hpl
    have hcode : ∀ (args : Array Value) (s : State) (m : MethodId), (∀ u ∈ sm_wd, u.before args s = true) → s.methodNamed? (sm_y k) = some m → ∃ meth c, s.vm.method? m = some meth ∧ meth.code = some c ∧ c.code = sm_bc k ∧ c.maxLocals = sm_nl k ∧ meth.sig.returnType = sm_re k ∧ meth.locks = false ∧ (k ≠ sm_LOAD → c.exceptionTable.toList = []) ∧ (k = sm_LOAD → c.exceptionTable.toList.map (fun h => (h.startPc, h.endPc, h.handlerPc, h.catchType)) = [(34, 38, 41, 643)]) := by
      intro args s m hts hn
      have h1 := hts _ (sm_cww hk)
      unfold sm_cw at h1
      cases hb : k == sm_LOAD with
      | true =>
        rw [hb] at h1
        obtain ⟨mk, meth, c, e1, e2, e3, e4, e5, e6, e7, e8, -⟩ := Cond.codeWith_spec h1
        cases hn.symm.trans e1
        exact ⟨meth, c, e2, e3, e4, e5, e7, e8, fun z => absurd (beq_iff_eq.mp hb) z, fun _ => e6⟩
      | false =>
        rw [hb] at h1
        obtain ⟨meth, c, e2, e3, e4, e5, e6, e7, e8, -⟩ := Cond.code_spec hn h1
        refine ⟨meth, c, e2, e3, e4, e5, e6, e7, fun _ => ?_, fun z => ?_⟩
        · have := Array.isEmpty_iff.mp e8
          rw [this]
        · rw [z] at hb; simp at hb
    refine MetFree.of_bodySF (code := sm_bc k) (maxLocals := sm_nl k) (ret := sm_re k) hpl.1 ?_ ?_
    · intro args s m hp hn
      obtain ⟨meth, c, e1, e2, e3, e4, e5, e6, -⟩ := hcode args s m (fun u hu => atoms_spec hp u hu) hn
      exact ⟨meth, c, e1, e2, e3, e4, e5, e6⟩
    · intro p e s m args below meth c s₁ B hml hP _
      obtain ⟨hargs, hH, hEF, hA⟩ := hP
      have hts : ∀ u ∈ sm_wd, u.before args s = true := fun u hu => atoms_spec B.pre u hu
      have Y := Stand.of_body B
      obtain ⟨meth', c', e1, e2, e3, e4, e5, e6, e7, e8⟩ := hcode args s m hts B.named
      cases B.method.symm.trans e1
      cases Y.code.symm.trans e2
      have hcx : sm_Cx E X p s m args meth c k := by
        refine ⟨B.exec, B.bytes, hml, ?_, hts, hEF, B.notSynchronized, B.returns, fun hkn => ?_, e7, e8⟩
        · rw [← hpl.2]; exact findClass_of_methodNamed B.named
        · rw [(name_of_methodNamed B.named B.method).1]
          have := List.all_eq_true.mp sm_yini k (List.mem_range.mpr hk)
          rw [hkn] at this
          exact of_decide_eq_true this
      have hlow0 : ∀ q, ¬ E.1 ≤ q → s.heap[q]? = E.2.2.2.2.2.2.2.2[q]? := fun q hq => hH.2.1 q (by omega)
      have hK := sm_all (R := (headSpec sm_wd (sm_rm (d + 1 + 6) (60 * (d + 1) + 100) σ r.2)).room) (e := e) (below := below) (r := r) (c0 := sm_cells σ) (s0 := sm_slots σ) hcx hfl hlow0 (sm_met hfl d) ⟨by show d + 6 + 1 ≤ d + 1 + 6; omega, by show 60 * d + 100 + 60 ≤ 60 * (d + 1) + 100; omega⟩ ⟨by show 6 ≤ d + 1 + 6; omega, by show 100 ≤ 60 * (d + 1) + 100; omega⟩ (sm_callM_mo d) (fun k As σ r h => sm_callM_k h) ⟨by show sm_cells r.2 ≤ sm_cells σ + (sm_cells r.2 - sm_cells σ); omega, by show sm_slots r.2 ≤ sm_slots σ + (sm_slots r.2 - sm_slots σ); omega⟩ (sm_ck k hk) n
      have ho := hEF.2.2.2.2.2.2.2.2.2.2.2.2
      have hW := hK 0 (sm_ent k As) [] σ s.heap [] _ h hH (sm_ent_LR ho hA hlay) (fun v hv => by cases hv) (fun q hq => by cases hq) (Nat.le_refl _) (Nat.le_refl _)
      rw [Nat.sub_self, Nat.sub_self] at hW
      have hh0 : s₁.heap = s.heap := by rw [B.state]; rfl
      obtain ⟨t, a1, o, b1, b2, b3, L, b4, b5⟩ := hW s₁ hh0 Y
      refine ⟨t, o, ?_, b1, b2, b3, L, b4, b5⟩
      rw [hargs, lg_entry_eq]
      exact a1
end
