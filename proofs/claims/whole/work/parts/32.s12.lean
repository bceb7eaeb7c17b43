section
variable {E : sm_G} {X : Nat × (Nat → Int32)} {w : Bool} {p : Program} {l : Launch} {e : Env} {R : Room} {s : State} {m : MethodId} {args : Array Value} {below : List Frame} {meth : Method} {c : Code} {mn : Nat} {C : sm_C} {r : sm_O × sm_S} {c0 s0 : Nat} {Q : State → Prop} {n : Nat}
variable {len : Nat} {a : Nat × Nat × Nat × Nat} {pc : Nat} {L S : List sm_V} {σ σ' : sm_S} {hx : sm_S → sm_R} {H H' : Heap} {locs : List Loc} {ls : Array Slot}
theorem sm_inst : sm_kl.all (fun q => bif q.2.2.1 == 24 then true else decide (q.2.2.1 < 24) && decide (Cond.instantiable (sm_cR q.2.2.1) (sm_fk q.2.2.1).length ∈ lw_tbl) && decide (Cond.initialized (sm_cR q.2.2.1) ∈ lw_tbl)) = true := by decide +kernel
theorem sm_lay24 : Cond.lays "java/lang/IllegalStateException" "java/lang/Throwable" "backtrace" "Ljava/lang/Object;" ∈ lw_tbl := by decide +kernel
theorem sm_inst24 : Cond.instantiable "java/lang/IllegalStateException" 6 ∈ lw_tbl ∧ Cond.initialized "java/lang/IllegalStateException" ∈ lw_tbl := by decide +kernel
theorem sm_arrc : Cond.arrayClass .int ∈ lw_tbl ∧ Cond.arrayClass .byte ∈ lw_tbl ∧ Cond.arrayClass .long ∈ lw_tbl := by decide +kernel
theorem sm_good_in {u : Cond} (h : u ∈ lw_tbl) (hg : goodWord u = true) : u ∈ sm_wd := List.mem_filter.mpr ⟨h, hg⟩
/-- the first state of a field is its type's default -/
theorem sm_fv_new (hH : sm_HR E w σ H) {t n m : Nat} (h10 : 10 ≤ t) (h24 : t < 24) (hw : w = true → t = 16 ∨ t = 18 ∨ t = 19) : ∀ k, k < (sm_fk t).length → defaultValue (sm_cty t k) = sm_fv E w (sN σ t n m) t (sm_cnt σ t) k := by
  intro k hk
  obtain ⟨z1, z2, z3⟩ := hH.2.2.2.2.1 t (sm_cnt σ t) k (Nat.le_refl _)
  have hty := sm_ctyk t h10 h24 k hk
  have hkd : (sm_fk t)[k]? = some ((sm_fk t).getD k 0) := by simp [List.getD, hk]
  unfold sm_fv
  generalize (sm_fk t).getD k 0 = kd at hty hkd ⊢
  have g1 : (sN σ t n m).1 t (sm_cnt σ t) k = 0 := z1
  have g2 : (sN σ t n m).2.1 t (sm_cnt σ t) k = 0 := z2
  have g3 : (sN σ t n m).2.2.1 t (sm_cnt σ t) k = (0, 0) := z3
  have null : ∀ (ty : FieldType), sm_tyk ty kd = true → (kd = 2 ∨ 10 ≤ kd) → defaultValue ty = .null := by
    intro ty h1 h2
    cases ty <;> simp [sm_tyk] at h1 <;> first | omega | rfl
  match kd, hty, hkd, null with
  | 0, hty, _, _ => rw [sm_tyk_I hty]; show Value.int 0 = .int ((sN σ t n m).1 t (sm_cnt σ t) k); rw [g1]
  | 1, hty, _, _ => rw [sm_tyk_J hty]; show Value.long 0 = .long ((sN σ t n m).2.1 t (sm_cnt σ t) k); rw [g2]
  | 3, hty, _, _ => rw [sm_tyk_Z hty]; show Value.int 0 = .int ((sN σ t n m).1 t (sm_cnt σ t) k); rw [g1]
  | 2, hty, _, null =>
    rw [null _ hty (Or.inl rfl)]
    show Value.null = va_rf (sm_rp E (sm_ad (sN σ t n m)) ((sN σ t n m).2.2.1 t (sm_cnt σ t) k))
    rw [g3]; rfl
  | kd + 10, hty, hkd, null =>
    rw [null _ hty (Or.inr (by omega))]
    cases w with
    | false =>
      show Value.null = va_rf (sm_rp E (sm_ad (sN σ t n m)) ((sN σ t n m).2.2.1 t (sm_cnt σ t) k))
      rw [g3]; rfl
    | true =>
      exfalso
      have hm := List.mem_of_getElem? hkd
      rcases hw rfl with rfl | rfl | rfl
      · have : ∀ kd ∈ sm_fk 16, kd < 10 := by decide +kernel
        have := this _ hm; omega
      · have : ∀ kd ∈ sm_fk 18, kd < 10 := by decide +kernel
        have := this _ hm; omega
      · have : ∀ kd ∈ sm_fk 19, kd < 10 := by decide +kernel
        have := this _ hm; omega
  | 4, hty, _, _ => exact (sm_tyk_no hty (by omega) (by omega)).elim
  | 5, hty, _, _ => exact (sm_tyk_no hty (by omega) (by omega)).elim
  | 6, hty, _, _ => exact (sm_tyk_no hty (by omega) (by omega)).elim
  | 7, hty, _, _ => exact (sm_tyk_no hty (by omega) (by omega)).elim
  | 8, hty, _, _ => exact (sm_tyk_no hty (by omega) (by omega)).elim
  | 9, hty, _, _ => exact (sm_tyk_no hty (by omega) (by omega)).elim
theorem sm_ad_new {t n m : Nat} : sm_ad (sN σ t n m) t (sm_cnt σ t) = sm_cells σ := by
  show sm_up2 σ.2.2.2.2.2.1 t (sm_cnt σ t) (sm_cells σ) t (sm_cnt σ t) = _
  simp [sm_up2]
/-- behind a new cell -/
theorem sm_after_new (K : sm_K E X w p l e R s m args below meth c mn C r c0 s0 Q n) {t k z len : Nat} (ht : 10 ≤ t) (h97 : t < 97) (hw : w = true → t < 24 → t = 16 ∨ t = 18 ∨ t = 19) (hH : sm_HR E w σ H) (hL : sm_LR E σ (sm_nl mn) L ls) (hS : sm_SR σ S) (hl : ∀ q ∈ locs, E.1 ≤ q.base) (hc : c0 ≤ sm_cells σ) (hs : s0 ≤ sm_slots σ)
    (h : sm_run (sm_ZZ X) sm_PP w C mn n (pc + len) L (vP (t, sm_cnt σ t) :: S) (sN σ t k z) = some r) (e2 : H'.size = H.size + 1) (e3 : ∀ q, q < H.size → H'[q]? = H[q]?) (hcell : sm_cell E w (sN σ t k z) H' t (sm_cnt σ t)) :
    W p l e R s m args below meth c H' locs (sm_cells σ - c0 + 1) (sm_slots σ - s0 + k) Q (F0 m (pc + len) ls (.ref H.size :: sm_st E σ S)) := by
  obtain ⟨hH', cm, am⟩ := hH.new ht h97 hw e2 e3 hcell
  have g := K _ _ _ _ _ _ _ h hH' (hL.mono cm am) ((hS.mono cm).cons (v := vP (t, sm_cnt σ t)) (Or.inr (Or.inr (Or.inr (Or.inr (Or.inr ⟨ht, ?_⟩)))))) hl (Nat.le_succ_of_le hc) (Nat.le_trans hs (Nat.le_add_right _ _))
  · have ec : sm_cells (sN σ t k z) - c0 = sm_cells σ - c0 + 1 := by show sm_cells σ + 1 - c0 = _; omega
    have es : sm_slots (sN σ t k z) - s0 = sm_slots σ - s0 + k := by show sm_slots σ + k - s0 = _; omega
    rw [ec, es] at g
    have est : sm_st E (sN σ t k z) (vP (t, sm_cnt σ t) :: S) = .ref H.size :: sm_st E σ S := by
      show va_rf (sm_rp E (sm_ad (sN σ t k z)) (t, sm_cnt σ t)) :: sm_st E (sN σ t k z) S = _
      rw [sm_rp_big ht, sm_ad_new, sm_st_eq am hS, hH.1]
      rfl
    rw [est] at g
    exact g
  · show sm_cnt σ t < sm_up1 σ.2.2.2.2.1 t (sm_cnt σ t + 1) t
    simp [sm_up1]
theorem sm_blank24 (hts : ∀ u ∈ sm_wd, u.before args s = true) {cE : ClassId} (hf : s.vm.findClass "java/lang/IllegalStateException" = some cE) {kC : Class} (hkC : s.vm.classes[cE]? = some kC) {b : Nat} (hsl : SlotIs s "java/lang/Throwable" "backtrace" "Ljava/lang/Object;" b) : (blank cE kC).slots.size = 6 ∧ (blank cE kC).slots[b]? = some .null := by
  obtain ⟨c1, k1, hc1, hk1, -, -, -, hn6⟩ := Cond.instantiable_spec (hts _ (sm_good_in sm_inst24.1 rfl))
  cases hf.symm.trans hc1
  cases hkC.symm.trans hk1
  obtain ⟨cf, kf, fi, f, hfi, rfl⟩ := hsl
  obtain ⟨ty, -⟩ := Cond.laysAt hf hkC hfi (hts _ (sm_good_in sm_lay24 rfl))
  have h2 := fresh_default (c := cE) ty
  rw [(State.fieldFound?_type hfi (t := .object "java/lang/Object") (by decide +kernel)).2] at h2
  exact ⟨by simp [blank, hn6], h2⟩
set_option maxHeartbeats 1000000 in
theorem sm_s_new (cx : sm_Cx E X p s m args meth c mn) (K : sm_K E X w p l e R s m args below meth c mn C r c0 s0 Q n) (hC : ∀ m a s o t, C m a s = some (o, t) → sm_mo s t) (hr : sm_cells r.2 ≤ c0 + R.cells ∧ sm_slots r.2 ≤ s0 + R.slots) {i : Nat} (hd : decode (sm_bc mn) pc = .ok (.new i, 3)) (hok : sm_okA mn (.new i) a pc = true)
    (h : sm_I (sm_ZZ X) w C (.new i) a pc (sm_run (sm_ZZ X) sm_PP w C mn n (pc + 3)) (sm_run (sm_ZZ X) sm_PP w C mn n) hx L S σ = some r) (hH : sm_HR E w σ H) (hL : sm_LR E σ (sm_nl mn) L ls) (hS : sm_SR σ S) (hl : ∀ q ∈ locs, E.1 ≤ q.base) (hc : c0 ≤ sm_cells σ) (hs : s0 ≤ sm_slots σ) :
    W p l e R s m args below meth c H locs (sm_cells σ - c0) (sm_slots σ - s0) Q (F0 m pc ls (sm_st E σ S)) := by
  obtain ⟨hex, hb, hml, hown, hts, hEF, -⟩ := cx
  obtain ⟨t, k, a3, a4⟩ := a
  have h : (bif w && !(t == 16 || t == 18 || t == 19) then none else sm_run (sm_ZZ X) sm_PP w C mn n (pc + 3) L (vP (t, sm_cnt σ t) :: S) (sN σ t k 0)) = some r := h
  have hw : w = true → t = 16 ∨ t = 18 ∨ t = 19 := by
    intro hw
    rw [hw] at h
    cases hq : (t == 16 || t == 18 || t == 19) with
    | false => rw [hq] at h; cases h
    | true =>
      simp only [Bool.or_eq_true, beq_iff_eq] at hq
      rcases hq with (q | q) | q
      · exact Or.inl q
      · exact Or.inr (Or.inl q)
      · exact Or.inr (Or.inr q)
  have h : sm_run (sm_ZZ X) sm_PP w C mn n (pc + 3) L (vP (t, sm_cnt σ t) :: S) (sN σ t k 0) = some r := by
    cases hq : (w && !(t == 16 || t == 18 || t == 19)) with
    | false => rw [hq] at h; exact h
    | true => rw [hq] at h; cases h
  have hok' : (sm_has4 sm_kl (sm_ow mn) i t && ((t == 24 && k == 6) || (decide (10 ≤ t) && (decide (t < 24) && (sm_fk t).length == k)))) = true := hok
  simp only [Bool.or_eq_true, Bool.and_eq_true, beq_iff_eq, decide_eq_true_eq] at hok'
  obtain ⟨hk, g⟩ := hok'
  have hmo := (sm_run_mo hC n h).1
  have hcl : sm_cells σ - c0 + 1 ≤ R.cells := by have : sm_cells σ + 1 ≤ sm_cells r.2 := hmo.1; omega
  have hsl : sm_slots σ - s0 + k ≤ R.slots := by have : sm_slots σ + k ≤ sm_slots r.2 := hmo.2; omega
  have hlink := hts _ (sm_kl_w hk)
  rcases g with ⟨rfl, rfl⟩ | ⟨h10, h24, rfl⟩
  · obtain ⟨hf, hsl2, -⟩ := hEF.2.2.2.2.2.2.2.2.2.2.2.1
    refine W.newcK hex hb hown hlink (hts _ (sm_good_in sm_inst24.1 rfl)) (hts _ (sm_good_in sm_inst24.2 rfl)) rfl hd hcl hsl hf rfl fun H' kC hkC e1 e2 e3 => ?_
    exact sm_after_new K (by omega) (by omega) (fun a b => by omega) hH hL hS hl hc hs h e2 e3 (Or.inr (Or.inl ⟨rfl, _, by rw [sm_ad_new, ← hH.1]; exact e1, rfl, rfl, rfl, (sm_blank24 hts hf hkC hsl2).1, (sm_blank24 hts hf hkC hsl2).2⟩))
  · have hne : (t == 24) = false := sm_bne (by omega)
    rw [hne] at hlink
    obtain ⟨q, hq, e1, e2, e3⟩ := sm_has4_s hk
    have hi := List.all_eq_true.mp sm_inst q hq
    rw [e3, hne] at hi
    simp only [cond_false, Bool.and_eq_true, decide_eq_true_eq] at hi
    have hKn := hEF.1 t h10 h24
    refine W.newcK hex hb hown hlink (hts _ (sm_good_in hi.1.2 rfl)) (hts _ (sm_good_in hi.2 rfl)) rfl hd hcl hsl hKn.2.1 rfl fun H' kC hkC e1 e2 e3 => ?_
    refine sm_after_new K h10 (by omega) (fun a _ => hw a) hH hL hS hl hc hs h e2 e3 (Or.inl ⟨h24, ?_⟩)
    rw [sm_ad_new, ← hH.1]
    exact (u_born (sm_cty t) hts (sm_uw t h10 h24) hKn hkC e1 (sm_cty_ok t h10 h24)).to (sm_fv_new hH h10 h24 hw)
/-- a new row -/
theorem sm_row_new (hH : sm_HR E w σ H) {t N : Nat} (h30 : 30 ≤ t) (h97 : t < 97) (hN : (sm_ak t).2 = 0 ∨ N = (sm_ak t).2) {f : Nat → Value} (hf : ∀ j, f j = (match (sm_ak t).1 with
    | 0 => .int 0
    | 1 => .int 0
    | 2 => .long 0
    | _ => .null)) (e1 : H'[H.size]? = some (arrV (E.2.2.2.2.2.2.2.1 t) N f)) : sm_cell E w (sN σ t N N) H' t (sm_cnt σ t) := by
  refine Or.inr (Or.inr ⟨h30, h97, ?_⟩)
  rw [sm_ad_new, ← hH.1, e1]
  have hal : sm_al (sN σ t N N) t (sm_cnt σ t) = N := by
    unfold sm_al
    show (bif (sm_ak t).2 == 0 then sm_up2 σ.2.2.2.1 t (sm_cnt σ t) N t (sm_cnt σ t) else (sm_ak t).2) = N
    by_cases hz : (sm_ak t).2 = 0
    · rw [hz]; simp [sm_up2]
    · rw [sm_bne hz]; exact (hN.resolve_left hz).symm
  rw [hal]
  have hv : f = sm_av E (sN σ t N N) t (sm_cnt σ t) := by
    funext j
    obtain ⟨z1, z2, z3⟩ := hH.2.2.2.2.1 t (sm_cnt σ t) j (Nat.le_refl _)
    rw [hf j]
    unfold sm_av
    rw [show (sN σ t N N).1 t (sm_cnt σ t) j = 0 from z1, show (sN σ t N N).2.1 t (sm_cnt σ t) j = 0 from z2, show (sN σ t N N).2.2.1 t (sm_cnt σ t) j = (0, 0) from z3]
    generalize (sm_ak t).1 = kk
    rcases kk with _ | _ | _ | kk <;> rfl
  rw [hv]
set_option maxHeartbeats 1000000 in
theorem sm_s_newa (cx : sm_Cx E X p s m args meth c mn) (K : sm_K E X w p l e R s m args below meth c mn C r c0 s0 Q n) (hC : ∀ m a s o t, C m a s = some (o, t) → sm_mo s t) (hr : sm_cells r.2 ≤ c0 + R.cells ∧ sm_slots r.2 ≤ s0 + R.slots) {ty : ArrayType} (hd : decode (sm_bc mn) pc = .ok (.newarray ty, 2)) (hok : sm_okA mn (.newarray ty) a pc = true)
    (h : sm_I (sm_ZZ X) w C (.newarray ty) a pc (sm_run (sm_ZZ X) sm_PP w C mn n (pc + 2)) (sm_run (sm_ZZ X) sm_PP w C mn n) hx L S σ = some r) (hH : sm_HR E w σ H) (hL : sm_LR E σ (sm_nl mn) L ls) (hS : sm_SR σ S) (hl : ∀ q ∈ locs, E.1 ≤ q.base) (hc : c0 ≤ sm_cells σ) (hs : s0 ≤ sm_slots σ) :
    W p l e R s m args below meth c H locs (sm_cells σ - c0) (sm_slots σ - s0) Q (F0 m pc ls (sm_st E σ S)) := by
  obtain ⟨hex, hb, hml, hown, hts, hEF, -⟩ := cx
  obtain ⟨t, k, a3, a4⟩ := a
  rcases sm_p1_s S with q | ⟨x, S, rfl⟩
  · exact absurd h (by rw [show sm_I (sm_ZZ X) w C (.newarray ty) (t, k, a3, a4) pc _ _ hx L S σ = none from q _]; exact fun z => by cases z)
  have h : (if x < 0 ∨ 100000 < x.toNatClampNeg ∨ ¬ (k = 0 ∨ x.toNatClampNeg = k) then none else sm_run (sm_ZZ X) sm_PP w C mn n (pc + 2) L (vP (t, sm_cnt σ t) :: S) (sN σ t x.toNatClampNeg x.toNatClampNeg)) = some r := h
  by_cases hz : x < 0 ∨ 100000 < x.toNatClampNeg ∨ ¬ (k = 0 ∨ x.toNatClampNeg = k)
  · rw [if_pos hz] at h; cases h
  rw [if_neg hz] at h
  have hok' : (decide (30 ≤ t) && (decide (t < 97) && ((sm_ak t).2 == k && ((decide (ty = .int) && (sm_ak t).1 == 0) || ((decide (ty = .byte) && (sm_ak t).1 == 1) || (decide (ty = .long) && (sm_ak t).1 == 2)))))) = true := hok
  simp only [Bool.or_eq_true, Bool.and_eq_true, beq_iff_eq, decide_eq_true_eq] at hok'
  obtain ⟨h30, h97, hk, hty⟩ := hok'
  have hN : (sm_ak t).2 = 0 ∨ x.toNatClampNeg = (sm_ak t).2 := by
    rw [hk]
    by_cases q : k = 0 ∨ x.toNatClampNeg = k
    · exact q
    · exact absurd (Or.inr (Or.inr q)) hz
  have hx0 : ¬ x < 0 := fun q => hz (Or.inl q)
  have hbig : x.toNatClampNeg ≤ 100000 := Nat.not_lt.mp fun q => hz (Or.inr (Or.inl q))
  have hmo := (sm_run_mo hC n h).1
  have hcl : sm_cells σ - c0 + 1 ≤ R.cells := by have : sm_cells σ + 1 ≤ sm_cells r.2 := hmo.1; omega
  have hsl : sm_slots σ - s0 + x.toNatClampNeg ≤ R.slots := by have : sm_slots σ + x.toNatClampNeg ≤ sm_slots r.2 := hmo.2; omega
  obtain ⟨-, hra⟩ := hEF.2.1 t h30 h97
  have fin : ∀ (ft : FieldType), newarray.typeOf ty = ft → sm_at_ t = ft → (∀ C', ft ≠ .object C') → Cond.arrayClass ft ∈ sm_wd → x.toNatClampNeg * componentBytes ft ≤ 536870912 → (defaultValue ft = (match (sm_ak t).1 with
    | 0 => .int 0
    | 1 => .int 0
    | 2 => .long 0
    | _ => .null)) → W p l e R s m args below meth c H locs (sm_cells σ - c0) (sm_slots σ - s0) Q (F0 m pc ls (sm_st E σ (vI x :: S))) := by
    intro ft e1 e2 e3 e4 e5 e6
    subst e1
    refine va_newaK hex hb (hts _ e4) rfl hd rfl hx0 rfl e5 hcl hsl rfl fun H' cA q1 q2 q3 q4 q5 => ?_
    have hcA : cA = E.2.2.2.2.2.2.2.1 t := by
      rw [e2] at hra
      cases hft : newarray.typeOf ty with
      | object C' => exact absurd hft (e3 C')
      | _ => rw [hft] at hra q5; exact Option.some.inj (q5.symm.trans hra)
    subst hcA
    exact sm_after_new K (by omega) h97 (fun _ b => by omega) hH hL hS.tail hl hc hs h q2 q3 (sm_row_new hH h30 h97 hN (fun _ => e6) q1)
  rcases hty with ⟨rfl, h0⟩ | ⟨rfl, h0⟩ | ⟨rfl, h0⟩
  · exact fin .int rfl (sm_at0 (n := (sm_ak t).2) (by rw [← h0])) (fun _ q => by cases q) (sm_good_in sm_arrc.1 rfl) (by show x.toNatClampNeg * 4 ≤ _; omega) (by rw [h0]; rfl)
  · exact fin .byte rfl (sm_at1 (n := (sm_ak t).2) (by rw [← h0])) (fun _ q => by cases q) (sm_good_in sm_arrc.2.1 rfl) (by show x.toNatClampNeg * 1 ≤ _; omega) (by rw [h0]; rfl)
  · exact fin .long rfl (sm_at2 (n := (sm_ak t).2) (by rw [← h0])) (fun _ q => by cases q) (sm_good_in sm_arrc.2.2 rfl) (by show x.toNatClampNeg * 8 ≤ _; omega) (by rw [h0]; rfl)
set_option maxHeartbeats 1000000 in
theorem sm_s_anew (cx : sm_Cx E X p s m args meth c mn) (K : sm_K E X w p l e R s m args below meth c mn C r c0 s0 Q n) (hC : ∀ m a s o t, C m a s = some (o, t) → sm_mo s t) (hr : sm_cells r.2 ≤ c0 + R.cells ∧ sm_slots r.2 ≤ s0 + R.slots) {i : Nat} (hd : decode (sm_bc mn) pc = .ok (.anewarray i, 3)) (hok : sm_okA mn (.anewarray i) a pc = true)
    (h : sm_I (sm_ZZ X) w C (.anewarray i) a pc (sm_run (sm_ZZ X) sm_PP w C mn n (pc + 3)) (sm_run (sm_ZZ X) sm_PP w C mn n) hx L S σ = some r) (hH : sm_HR E w σ H) (hL : sm_LR E σ (sm_nl mn) L ls) (hS : sm_SR σ S) (hl : ∀ q ∈ locs, E.1 ≤ q.base) (hc : c0 ≤ sm_cells σ) (hs : s0 ≤ sm_slots σ) :
    W p l e R s m args below meth c H locs (sm_cells σ - c0) (sm_slots σ - s0) Q (F0 m pc ls (sm_st E σ S)) := by
  obtain ⟨hex, hb, hml, hown, hts, hEF, -⟩ := cx
  obtain ⟨t, k, a3, a4⟩ := a
  rcases sm_p1_s S with q | ⟨x, S, rfl⟩
  · exact absurd h (by rw [show sm_I (sm_ZZ X) w C (.anewarray i) (t, k, a3, a4) pc _ _ hx L S σ = none from q _]; exact fun z => by cases z)
  have h : (if x < 0 ∨ 100000 < x.toNatClampNeg ∨ ¬ (k = 0 ∨ x.toNatClampNeg = k) then none else sm_run (sm_ZZ X) sm_PP w C mn n (pc + 3) L (vP (t, sm_cnt σ t) :: S) (sN σ t x.toNatClampNeg x.toNatClampNeg)) = some r := h
  by_cases hz : x < 0 ∨ 100000 < x.toNatClampNeg ∨ ¬ (k = 0 ∨ x.toNatClampNeg = k)
  · rw [if_pos hz] at h; cases h
  rw [if_neg hz] at h
  have hok' : (decide (30 ≤ t) && (decide (t < 97) && ((sm_ak t) == (3, k) && sm_kl.any (fun q => q.1 == sm_ow mn && (q.2.1 == i && (decide (10 ≤ q.2.2.1) && (decide (q.2.2.1 < 24) && sm_cR q.2.2.1 == sm_ae t))))))) = true := hok
  simp only [Bool.and_eq_true, beq_iff_eq, decide_eq_true_eq] at hok'
  obtain ⟨h30, h97, hk, hany⟩ := hok'
  obtain ⟨q, hq, hq1⟩ := List.any_eq_true.mp hany
  simp only [Bool.and_eq_true, beq_iff_eq, decide_eq_true_eq] at hq1
  obtain ⟨e1, e2, e3, e4, e5⟩ := hq1
  have hw0 := sm_wrd (of_decide_eq_true (List.all_eq_true.mp sm_kl_in q hq)) (show goodWord (sm_klw q) = true from rfl)
  unfold sm_klw at hw0
  rw [e1, e2, sm_bne (show q.2.2.1 ≠ 24 by omega), cond_false, e5] at hw0
  have hN : (sm_ak t).2 = 0 ∨ x.toNatClampNeg = (sm_ak t).2 := by
    rw [hk]
    by_cases q : k = 0 ∨ x.toNatClampNeg = k
    · exact q
    · exact absurd (Or.inr (Or.inr q)) hz
  have hx0 : ¬ x < 0 := fun q => hz (Or.inl q)
  have hbig : x.toNatClampNeg ≤ 100000 := Nat.not_lt.mp fun q => hz (Or.inr (Or.inl q))
  have hmo := (sm_run_mo hC n h).1
  have hcl : sm_cells σ - c0 + 1 ≤ R.cells := by have : sm_cells σ + 1 ≤ sm_cells r.2 := hmo.1; omega
  have hsl : sm_slots σ - s0 + x.toNatClampNeg ≤ R.slots := by have : sm_slots σ + x.toNatClampNeg ≤ sm_slots r.2 := hmo.2; omega
  obtain ⟨-, hra⟩ := hEF.2.1 t h30 h97
  rw [sm_at3 hk] at hra
  obtain ⟨kA0, comp0, k1, k2, k3, k4⟩ := hra
  have hao : va_AO (sm_ae t) s := by
    have hh : ∀ u, u < 67 → (sm_ak (u + 30)).1 = 3 → sm_ae (u + 30) = "FreightYards$Vehicle" ∨ sm_ae (u + 30) = "FreightYards$Row" ∨ sm_ae (u + 30) = "FreightYards$Train" := by decide +kernel
    have := hh (t - 30) (by omega)
    rw [Nat.sub_add_cancel h30] at this
    rcases this (by rw [hk]) with z | z | z
    · rw [z]; exact hEF.2.2.2.2.2.2.2.2.2.1.1
    · rw [z]; exact hEF.2.2.2.2.2.2.2.2.2.1.2.1
    · rw [z]; exact hEF.2.2.2.2.2.2.2.2.2.1.2.2
  refine W.anew hex hb hown (hts _ hw0) (va_AO.use hao) rfl hd rfl hx0 (by omega) hcl hsl fun cA kA comp q1 q2 q3 q4 => ?_
  have hcA : cA = E.2.2.2.2.2.2.2.1 t := Option.some.inj (q1.symm.trans k4)
  subst hcA
  refine sm_after_new K (by omega) h97 (fun _ b => by omega) hH hL hS.tail hl hc hs h (by simp) (fun q hq => by rw [Array.getElem?_push, if_neg (Nat.ne_of_lt hq)]) (sm_row_new hH h30 h97 hN (f := fun _ => .null) (fun _ => by rw [hk]; rfl) ?_)
  rw [← arrV_new]; simp
end
