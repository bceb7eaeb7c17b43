section
variable {E : sm_G} {X : Nat × (Nat → Int32)} {w : Bool} {p : Program} {l : Launch} {e : Env} {R : Room} {s : State} {m : MethodId} {args : Array Value} {below : List Frame} {meth : Method} {c : Code} {mn : Nat} {C : sm_C} {r : sm_O × sm_S} {c0 s0 : Nat} {Q : State → Prop}
/-- what holds of an invocation of method mn -/
def sm_Cx (E : sm_G) (X : Nat × (Nat → Int32)) (p : Program) (s : State) (m : MethodId) (args : Array Value) (meth : Method) (c : Code) (mn : Nat) : Prop :=
  p.tables.exec = Jvm.exec ∧ c.code = sm_bc mn ∧ c.maxLocals = sm_nl mn ∧ s.vm.findClass (sm_cn (sm_ow mn)) = some m.cls ∧ (∀ u ∈ sm_wd, u.before args s = true) ∧ sm_EF E X s ∧ meth.locks = false ∧ meth.sig.returnType = sm_re mn ∧ (sm_kn mn = 2 → meth.name = "<init>") ∧
  (mn ≠ sm_LOAD → c.exceptionTable.toList = []) ∧ (mn = sm_LOAD → c.exceptionTable.toList.map (fun h => (h.startPc, h.endPc, h.handlerPc, h.catchType)) = [(34, 38, 41, 643)])
/-- the walk of what the small machine does in n steps -/
def sm_K (E : sm_G) (X : Nat × (Nat → Int32)) (w : Bool) (p : Program) (l : Launch) (e : Env) (R : Room) (s : State) (m : MethodId) (args : Array Value) (below : List Frame) (meth : Method) (c : Code) (mn : Nat) (C : sm_C) (r : sm_O × sm_S) (c0 s0 : Nat) (Q : State → Prop) (n : Nat) : Prop :=
  ∀ (pc : Nat) (L S : List sm_V) (σ : sm_S) (H : Heap) (locs : List Loc) (ls : Array Slot), sm_run (sm_ZZ X) sm_PP w C mn n pc L S σ = some r → sm_HR E w σ H → sm_LR E σ (sm_nl mn) L ls → sm_SR σ S → (∀ q ∈ locs, E.1 ≤ q.base) → c0 ≤ sm_cells σ → s0 ≤ sm_slots σ →
    W p l e R s m args below meth c H locs (sm_cells σ - c0) (sm_slots σ - s0) Q (F0 m pc ls (sm_st E σ S))
theorem sm_tg_eq {pc : Nat} {o : Int} (h : 0 ≤ (pc : Int) + o) : (pc : Int) + o = (sm_tg pc o : Int) := by
  unfold sm_tg; omega
theorem sm_rp_none {ad : Nat → Nat → Nat} {q : Nat × Nat} : sm_rp E ad q = none ↔ q.1 = 0 := by
  unfold sm_rp
  by_cases h : q.1 = 0
  · simp [h]
  · simp only [h, if_false, iff_false]
    repeat (split; · simp)
    simp
theorem sm_SR.tail {σ : sm_S} {v : sm_V} {S : List sm_V} (h : sm_SR σ (v :: S)) : sm_SR σ S := fun u hu => h u (List.mem_cons_of_mem _ hu)
theorem sm_SR.cons {σ : sm_S} {v : sm_V} {S : List sm_V} (hv : sm_okv (sm_cnt σ) v) (h : sm_SR σ S) : sm_SR σ (v :: S) := fun u hu => by
  rcases List.mem_cons.mp hu with rfl | hu
  · exact hv
  · exact h u hu
/-- two references that are the same cell are the same -/
theorem sm_rp_inj {σ : sm_S} {H : Heap} (hH : sm_HR E w σ H) {x y : Nat × Nat} (hx : sm_okp (sm_cnt σ) x) (hy : sm_okp (sm_cnt σ) y) (gx : x.1 = 0 ∨ 10 ≤ x.1) (gy : y.1 = 0 ∨ 10 ≤ y.1) (h : sm_rp E (sm_ad σ) x = sm_rp E (sm_ad σ) y) : x = y := by
  have big : ∀ z : Nat × Nat, 10 ≤ z.1 → sm_rp E (sm_ad σ) z = some (E.1 + sm_ad σ z.1 z.2) := by
    intro z hz
    unfold sm_rp
    rw [if_neg (by omega), if_neg (by omega), if_neg (by omega), if_neg (by omega), if_neg (by omega)]
  have okb : ∀ z : Nat × Nat, sm_okp (sm_cnt σ) z → 10 ≤ z.1 → z.2 < sm_cnt σ z.1 := by
    intro z hz h10
    rcases hz with q | q | q | q | q | q
    · rw [q] at h10; simp at h10
    all_goals omega
  have ok0 : ∀ z : Nat × Nat, sm_okp (sm_cnt σ) z → z.1 = 0 → z = (0, 0) := by
    intro z hz h0
    rcases hz with q | q | q | q | q | q
    · exact q
    all_goals omega
  rcases gx with g1 | g1 <;> rcases gy with g2 | g2
  · rw [ok0 x hx g1, ok0 y hy g2]
  · rw [sm_rp_none.mpr g1, big y g2] at h; cases h
  · rw [sm_rp_none.mpr g2, big x g1] at h; cases h
  · rw [big x g1, big y g2] at h
    have e1 : sm_ad σ x.1 x.2 = sm_ad σ y.1 y.2 := by
      have := Option.some.inj h; omega
    obtain ⟨a, b⟩ := hH.2.2.2.1 x.1 x.2 y.1 y.2 g1 (okb x hx g1) g2 (okb y hy g2) e1
    exact Prod.ext a b
/-- the instructions that touch neither heap nor tables nor calls -/
def sm_lt (ins : Instr) : Bool := match ins with
  | .ldc _ | .ldc_w _ | .ldc2_w _ | .getstatic _ | .getfield _ | .putfield _ | .iaload | .baload | .laload | .aaload | .iastore | .bastore | .lastore | .aastore | .arraylength | .new _ | .newarray _ | .anewarray _ | .invokestatic _ | .invokevirtual _ | .invokespecial _ | .athrow | .ireturn | .lreturn | .areturn | .return_ => false
  | _ => true
theorem sm_sw_lookup {x : Int32} {jp : Nat → sm_R} {pc d : Nat} : ∀ (l : List (Int × Int)), (l.all (fun q => decide (0 ≤ (pc : Int) + q.2) && sm_inR q.1)) = true → ∀ (dd : Int), 0 ≤ (pc : Int) + dd → sm_tg pc dd = d → ∃ off : Int, Op.lookupswitch.offset l dd x.toInt = off ∧ 0 ≤ (pc : Int) + off ∧ sm_sw x jp d (sm_pairs pc l) = jp (sm_tg pc off)
  | [], _, dd, hd, he => ⟨dd, rfl, hd, by rw [he]; rfl⟩
  | q :: r, hl, dd, hd, he => by
    simp only [List.all_cons, Bool.and_eq_true, decide_eq_true_eq] at hl
    obtain ⟨⟨h1, h2⟩, h3⟩ := hl
    have hq : x = Int32.ofInt q.1 ↔ x.toInt = q.1 := by
      unfold sm_inR at h2
      simp only [Bool.and_eq_true, decide_eq_true_eq] at h2
      constructor
      · intro h; rw [h]; exact Int32.toInt_ofInt_of_le (by simpa using h2.1) (by simp; omega)
      · intro h; rw [← h]; simp
    by_cases hx : x.toInt = q.1
    · refine ⟨q.2, ?_, h1, ?_⟩
      · simp [Op.lookupswitch.offset, hx]
      · show (if x = Int32.ofInt q.1 then _ else _) = _
        rw [if_pos (hq.mpr hx)]
    · obtain ⟨off, g1, g2, g3⟩ := sm_sw_lookup (x := x) (jp := jp) r (by simpa using h3) dd hd he
      refine ⟨off, ?_, g2, ?_⟩
      · rw [← g1]
        simp [Op.lookupswitch.offset, Ne.symm hx]
      · show (if x = Int32.ofInt q.1 then _ else _) = _
        rw [if_neg (fun z => hx (hq.mp z))]
        exact g3
theorem sm_sw_table {x : Int32} {jp : Nat → sm_R} {pc d : Nat} : ∀ (l : List Int) (lo : Int), sm_inR lo = true → sm_inR (lo + (l.length : Int)) = true →
    ((x.toInt < lo ∨ lo + (l.length : Int) ≤ x.toInt) → sm_sw x jp d (sm_cases pc lo l) = jp d) ∧ (lo ≤ x.toInt → x.toInt < lo + (l.length : Int) → ∃ off, l[(x.toInt - lo).toNat]? = some off ∧ sm_sw x jp d (sm_cases pc lo l) = jp (sm_tg pc off))
  | [], lo, _, _ => ⟨fun _ => rfl, fun a b => by simp at b; omega⟩
  | o :: r, lo, h1, h2 => by
    have e0 : lo + (((o :: r).length : Nat) : Int) = lo + 1 + (r.length : Int) := by simp; omega
    rw [e0] at h2 ⊢
    have hq : x = Int32.ofInt lo ↔ x.toInt = lo := by
      unfold sm_inR at h1
      simp only [Bool.and_eq_true, decide_eq_true_eq] at h1
      constructor
      · intro h; rw [h]; exact Int32.toInt_ofInt_of_le (by simpa using h1.1) (by simp; omega)
      · intro h; rw [← h]; simp
    have h1' : sm_inR (lo + 1) = true := by
      unfold sm_inR at h1 h2 ⊢
      simp only [Bool.and_eq_true, decide_eq_true_eq] at h1 h2 ⊢
      omega
    obtain ⟨g1, g2⟩ := sm_sw_table (x := x) (jp := jp) (pc := pc) (d := d) r (lo + 1) h1' h2
    refine ⟨fun hx => ?_, fun a b => ?_⟩
    · show (if x = Int32.ofInt lo then _ else _) = _
      rw [if_neg (fun z => by have := hq.mp z; omega)]
      exact g1 (by omega)
    · by_cases hx : x.toInt = lo
      · refine ⟨o, by rw [hx]; simp, ?_⟩
        show (if x = Int32.ofInt lo then _ else _) = _
        rw [if_pos (hq.mpr hx)]
      · obtain ⟨off, k1, k2⟩ := g2 (by omega) b
        refine ⟨off, ?_, ?_⟩
        · rw [show (x.toInt - lo).toNat = (x.toInt - (lo + 1)).toNat + 1 by omega]
          exact k1
        · show (if x = Int32.ofInt lo then _ else _) = _
          rw [if_neg (fun z => hx (hq.mp z))]
          exact k2
end
