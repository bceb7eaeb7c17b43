section
variable {E : sm_G} {X : Nat × (Nat → Int32)} {w : Bool} {p : Program} {l : Launch} {e : Env} {R : Room} {s : State} {m : MethodId} {args : Array Value} {below : List Frame} {meth : Method} {c : Code} {mn : Nat} {C : sm_C} {r : sm_O × sm_S} {c0 s0 : Nat} {Q : State → Prop} {n pc : Nat} {a : Nat × Nat × Nat × Nat} {L S : List sm_V} {σ : sm_S} {hx : sm_S → sm_R} {H : Heap} {locs : List Loc} {ls : Array Slot}
/-- how a real method ends, by the small one's end -/
def sm_out (E : sm_G) (r : sm_O × sm_S) (o : Outcome) : Prop := match r.1 with
  | none => ∃ i, i < sm_cnt r.2 24 ∧ o = .threw (E.1 + sm_ad r.2 24 i)
  | some none => o = .returned none
  | some (some v) => o = .returned (some (sm_rv E (sm_ad r.2) v)) ∧ sm_okv (sm_cnt r.2) v
def sm_QE (E : sm_G) (w : Bool) (s : State) (below : List Frame) (r : sm_O × sm_S) (c0 s0 : Nat) : State → Prop := fun t =>
  ∃ o, t.status = .running ∧ Ended t below o ∧ (sm_out E r o ∧ sm_HR E w r.2 t.heap) ∧ ∃ L, sm_FE s t L (sm_cells r.2 - c0) (sm_slots r.2 - s0) ∧ ∀ q ∈ L, E.1 ≤ q.base
theorem sm_weak {Q Q' : State → Prop} {cells slots : Nat} {g : JFrame} (h : ∀ t, Q t → Q' t) (k : W p l e R s m args below meth c H locs cells slots Q g) : W p l e R s m args below meth c H locs cells slots Q' g := by
  intro T hT Y
  obtain ⟨t, x, y⟩ := k T hT Y
  exact ⟨t, x, h t y⟩
theorem sm_QE_of (t : State) (h : MQ below (fun _ _ o t => sm_out E r o ∧ sm_HR E w r.2 t.heap) args s (sm_cells r.2 - c0) (sm_slots r.2 - s0) (fun q => E.1 ≤ q) t) : sm_QE E w s below r c0 s0 t := by
  obtain ⟨o, x, y, z, L, f, g⟩ := h
  exact ⟨o, x, y, z, L, ⟨f.2.1, f.2.2⟩, g⟩
theorem sm_nar1 {x : Int32} (h : x = 0 ∨ x = 1) : narrow .boolean (.int x) = .int x := by
  rcases h with rfl | rfl <;> rfl
theorem sm_nar3 {x : Int32} (h : -128 ≤ x ∧ x ≤ 127) : narrow .byte (.int x) = .int x := by
  have h1 : (-128 : Int) ≤ x.toInt := Int32.le_iff_toInt_le.mp h.1
  have h2 : x.toInt ≤ 127 := Int32.le_iff_toInt_le.mp h.2
  show Value.int x.toInt8.toInt32 = .int x
  congr 1
  apply Int32.toInt_inj.mp
  rw [Int8.toInt_toInt32, Int32.toInt_toInt8]
  exact Int.bmod_eq_of_le (by omega) (by omega)
theorem sm_nar2 {x : Int32} (h : 0 ≤ x ∧ x ≤ 65535) : narrow .char (.int x) = .int x := by
  have h1 : (0 : Int) ≤ x.toInt := Int32.le_iff_toInt_le.mp h.1
  have h2 : x.toInt ≤ 65535 := Int32.le_iff_toInt_le.mp h.2
  show Value.int x.toUInt32.toUInt16.toUInt32.toInt32 = .int x
  congr 1
  have h3 : x.toUInt32.toNat < 65536 := by
    have e1 : x.toInt = (x.toUInt32.toNat : Int).bmod (2 ^ 32) := by
      show x.toBitVec.toInt = _
      rw [BitVec.toInt_eq_toNat_bmod]; rfl
    have e2 := x.toUInt32.toNat_lt
    rw [Int.bmod_def] at e1
    split at e1 <;> omega
  have h4 : x.toUInt32.toUInt16.toUInt32 = x.toUInt32 := by
    apply UInt32.toNat_inj.mp
    simp
    omega
  rw [h4]
  rfl
theorem sm_s_iret (cx : sm_Cx E X p s m args meth c mn) (hd : decode (sm_bc mn) pc = .ok (.ireturn, 1)) (hok : sm_okA mn .ireturn a pc = true)
    {nx : List sm_V → List sm_V → sm_S → sm_R} {jp : Nat → List sm_V → List sm_V → sm_S → sm_R} (h : sm_I (sm_ZZ X) w C .ireturn a pc nx jp hx L S σ = some r) (hH : sm_HR E w σ H) (hl : ∀ q ∈ locs, E.1 ≤ q.base) :
    W p l e R s m args below meth c H locs (sm_cells σ - c0) (sm_slots σ - s0) (sm_QE E w s below r c0 s0) (F0 m pc ls (sm_st E σ S)) := by
  obtain ⟨hex, hb, hml, hown, hts, hEF, hlk, hre, -⟩ := cx
  rcases S with _ | ⟨v, _ | ⟨u, S⟩⟩
  · have h : (none : sm_R) = some r := h
    cases h
  · rcases v with x | x | x | x
    · have h : sm_rt a.1 x σ = some r := h
      have hok : ((a.1 == 0 && decide (sm_re mn = some .int)) || ((a.1 == 1 && decide (sm_re mn = some .boolean)) || ((a.1 == 2 && decide (sm_re mn = some .char)) || (a.1 == 3 && decide (sm_re mn = some .byte))))) = true := hok
      simp only [Bool.or_eq_true, Bool.and_eq_true, beq_iff_eq, decide_eq_true_eq] at hok
      have fin : ∀ ty, sm_re mn = some ty → narrow ty (.int x) = .int x → r = (some (some (vI x)), σ) → W p l e R s m args below meth c H locs (sm_cells σ - c0) (sm_slots σ - s0) (sm_QE E w s below r c0 s0) (F0 m pc ls (sm_st E σ [vI x])) := by
        rintro ty h1 h2 rfl
        exact sm_weak sm_QE_of (W.zret (v := x) hex hb (hre.trans h1) h2 (fun t ht _ => ⟨⟨rfl, trivial⟩, by rw [ht]; exact hH⟩) hl hd hlk)
      rcases hok with ⟨e1, e2⟩ | ⟨e1, e2⟩ | ⟨e1, e2⟩ | ⟨e1, e2⟩ <;> rw [e1] at h
      · have h : some (some (some (vI x)), σ) = some r := h
        exact fin _ e2 rfl (Option.some.inj h).symm
      · have h : (if x = 0 ∨ x = 1 then some (some (some (vI x)), σ) else none) = some r := h
        by_cases hz : x = 0 ∨ x = 1
        · rw [if_pos hz] at h
          exact fin _ e2 (sm_nar1 hz) (Option.some.inj h).symm
        · rw [if_neg hz] at h; cases h
      · have h : (if 0 ≤ x ∧ x ≤ 65535 then some (some (some (vI x)), σ) else none) = some r := h
        by_cases hz : 0 ≤ x ∧ x ≤ 65535
        · rw [if_pos hz] at h
          exact fin _ e2 (sm_nar2 hz) (Option.some.inj h).symm
        · rw [if_neg hz] at h; cases h
      · have h : (if -128 ≤ x ∧ x ≤ 127 then some (some (some (vI x)), σ) else none) = some r := h
        by_cases hz : -128 ≤ x ∧ x ≤ 127
        · rw [if_pos hz] at h
          exact fin _ e2 (sm_nar3 hz) (Option.some.inj h).symm
        · rw [if_neg hz] at h; cases h
    all_goals (have h : (none : sm_R) = some r := h; cases h)
  · rcases v with x | x | x | x <;> (have h : (none : sm_R) = some r := h; cases h)
theorem sm_s_lret (cx : sm_Cx E X p s m args meth c mn) (hd : decode (sm_bc mn) pc = .ok (.lreturn, 1)) (hok : sm_okA mn .lreturn a pc = true)
    {nx : List sm_V → List sm_V → sm_S → sm_R} {jp : Nat → List sm_V → List sm_V → sm_S → sm_R} (h : sm_I (sm_ZZ X) w C .lreturn a pc nx jp hx L S σ = some r) (hH : sm_HR E w σ H) (hl : ∀ q ∈ locs, E.1 ≤ q.base) :
    W p l e R s m args below meth c H locs (sm_cells σ - c0) (sm_slots σ - s0) (sm_QE E w s below r c0 s0) (F0 m pc ls (sm_st E σ S)) := by
  obtain ⟨hex, hb, hml, hown, hts, hEF, hlk, hre, -⟩ := cx
  rcases S with _ | ⟨v, _ | ⟨u, S⟩⟩
  · have h : (none : sm_R) = some r := h
    cases h
  · rcases v with x | x | x | x
    · have h : (none : sm_R) = some r := h
      cases h
    · have h : some (some (some (vL x)), σ) = some r := h
      cases h
      exact sm_weak sm_QE_of (W.lret (v := x) hex hb (hre.trans (of_decide_eq_true hok)) (fun t ht _ => ⟨⟨rfl, trivial⟩, by rw [ht]; exact hH⟩) hl hd hlk)
    all_goals (have h : (none : sm_R) = some r := h; cases h)
  · rcases v with x | x | x | x <;> (have h : (none : sm_R) = some r := h; cases h)
theorem sm_s_aret (cx : sm_Cx E X p s m args meth c mn) (hd : decode (sm_bc mn) pc = .ok (.areturn, 1)) (hok : sm_okA mn .areturn a pc = true)
    {nx : List sm_V → List sm_V → sm_S → sm_R} {jp : Nat → List sm_V → List sm_V → sm_S → sm_R} (h : sm_I (sm_ZZ X) w C .areturn a pc nx jp hx L S σ = some r) (hH : sm_HR E w σ H) (hS : sm_SR σ S) (hl : ∀ q ∈ locs, E.1 ≤ q.base) :
    W p l e R s m args below meth c H locs (sm_cells σ - c0) (sm_slots σ - s0) (sm_QE E w s below r c0 s0) (F0 m pc ls (sm_st E σ S)) := by
  obtain ⟨hex, hb, hml, hown, hts, hEF, hlk, hre, -⟩ := cx
  rcases S with _ | ⟨v, _ | ⟨u, S⟩⟩
  · have h : (none : sm_R) = some r := h
    cases h
  · rcases v with x | x | x | x
    · have h : (none : sm_R) = some r := h
      cases h
    · have h : (none : sm_R) = some r := h
      cases h
    · have h : some (some (some (vP x)), σ) = some r := h
      cases h
      have hok : (match sm_re mn with
        | some (.object _) => true
        | _ => false) = true := hok
      have hv := hS (vP x) (List.mem_cons_self ..)
      split at hok
      · rename_i q hq
        refine sm_weak sm_QE_of (W.aret (v := va_rf (sm_rp E (sm_ad σ) x)) hex hb (hre.trans hq) (Or.inl ⟨_, rfl⟩) ?_ (fun t ht _ => ⟨⟨rfl, hv⟩, by rw [ht]; exact hH⟩) hl hd hlk)
        cases sm_rp E (sm_ad σ) x with
        | none => exact Or.inl rfl
        | some y => exact Or.inr ⟨y, rfl⟩
      · cases hok
    · have h : (none : sm_R) = some r := h
      cases h
  · rcases v with x | x | x | x <;> (have h : (none : sm_R) = some r := h; cases h)
theorem sm_s_vret (cx : sm_Cx E X p s m args meth c mn) (hd : decode (sm_bc mn) pc = .ok (.return_, 1)) (hok : sm_okA mn .return_ a pc = true)
    {nx : List sm_V → List sm_V → sm_S → sm_R} {jp : Nat → List sm_V → List sm_V → sm_S → sm_R} (h : sm_I (sm_ZZ X) w C .return_ a pc nx jp hx L S σ = some r) (hH : sm_HR E w σ H) (hl : ∀ q ∈ locs, E.1 ≤ q.base) :
    W p l e R s m args below meth c H locs (sm_cells σ - c0) (sm_slots σ - s0) (sm_QE E w s below r c0 s0) (F0 m pc ls (sm_st E σ S)) := by
  obtain ⟨hex, hb, hml, hown, hts, hEF, hlk, hre, -⟩ := cx
  rcases S with _ | ⟨v, S⟩
  · have h : some (some none, σ) = some r := h
    cases h
    exact sm_weak sm_QE_of (W.vret hex hb (hre.trans (of_decide_eq_true hok)) (fun t ht _ => ⟨rfl, by rw [ht]; exact hH⟩) hl hd hlk)
  · have h : (none : sm_R) = some r := h
    cases h
/-- Object's own <init> -/
theorem sm_cats (ho : E.2.2.2.2.2.1 = .null ∨ ∃ a, E.2.2.2.2.2.1 = .ref a) (ad : Nat → Nat → Nat) : ∀ S : List sm_V, ((S.map (sm_rv E ad)).map fun v => v.category).sum = sm_cat S
  | [] => rfl
  | v :: S => by
    have h := sm_cats ho ad S
    show (sm_rv E ad v).category + ((S.map (sm_rv E ad)).map fun v => v.category).sum = sm_cat1 v + sm_cat S
    rw [h]
    congr 1
    rcases v with x | x | x | x
    · rfl
    · rfl
    · exact sm_cat_rv (v := vP x) rfl ho ad
    · exact sm_cat_rv (v := vU) rfl ho ad
end
