section
variable {E : sm_G} {X : Nat × (Nat → Int32)} {w : Bool} {p : Program} {l : Launch} {e : Env} {R : Room} {s : State} {m : MethodId} {args : Array Value} {below : List Frame} {meth : Method} {c : Code} {mn : Nat} {C : sm_C} {r : sm_O × sm_S} {c0 s0 : Nat} {Q : State → Prop} {n : Nat}
variable {len : Nat} {a : Nat × Nat × Nat × Nat} {pc : Nat} {L S : List sm_V} {σ σ' : sm_S} {hx : sm_S → sm_R} {H : Heap} {locs : List Loc} {ls : Array Slot}
theorem sm_at0 {t n : Nat} (h : sm_ak t = (0, n)) : sm_at_ t = .int := by unfold sm_at_; rw [h]; rfl
theorem sm_at1 {t n : Nat} (h : sm_ak t = (1, n)) : sm_at_ t = .byte := by unfold sm_at_; rw [h]; rfl
theorem sm_at2 {t n : Nat} (h : sm_ak t = (2, n)) : sm_at_ t = .long := by unfold sm_at_; rw [h]; rfl
theorem sm_at3 {t n : Nat} (h : sm_ak t = (3, n)) : sm_at_ t = .object (sm_ae t) := by unfold sm_at_; rw [h]; rfl
theorem sm_nin {x : Int32} {N M k : Nat} (h : ¬ (x < 0 ∨ N ≤ k)) (hm : N ≤ M) : ¬ (x < 0 ∨ M ≤ k) := by
  rintro (q | q)
  · exact h (Or.inl q)
  · exact h (Or.inr (Nat.le_trans hm q))
theorem sm_bne {a b : Nat} (h : a ≠ b) : (a == b) = false := by simp; exact h
theorem sm_al_n {t i k n : Nat} (h : sm_ak t = (k, n)) (hn : n ≠ 0) : sm_al σ t i = n := by
  unfold sm_al
  rw [h]
  show (bif n == 0 then _ else n) = n
  rw [show (n == 0) = false by simp; exact hn]
  rfl
theorem sm_al_b {t i k n : Nat} (h : sm_ak t = (k, n)) : sm_al σ t i = (bif n == 0 then σ.2.2.2.1 t i else n) := by
  unfold sm_al
  rw [h]
/-- tables and the script, at the heap -/
theorem sm_low (hH : sm_HR E w σ H) {q : Nat} (h : ¬ E.1 ≤ q) : H[q]? = E.2.2.2.2.2.2.2.2[q]? := hH.2.1 q (Nat.not_le.mp h)
set_option maxHeartbeats 1000000 in
theorem sm_s_ild (cx : sm_Cx E X p s m args meth c mn) (K : sm_K E X w p l e R s m args below meth c mn C r c0 s0 Q n) (hd : decode (sm_bc mn) pc = .ok (.iaload, 1)) (hok : sm_okA mn .iaload a pc = true)
    (h : sm_I (sm_ZZ X) w C .iaload a pc (sm_run (sm_ZZ X) sm_PP w C mn n (pc + 1)) (sm_run (sm_ZZ X) sm_PP w C mn n) hx L S σ = some r) (hH : sm_HR E w σ H) (hL : sm_LR E σ (sm_nl mn) L ls) (hS : sm_SR σ S) (hl : ∀ q ∈ locs, E.1 ≤ q.base) (hc : c0 ≤ sm_cells σ) (hs : s0 ≤ sm_slots σ) :
    W p l e R s m args below meth c H locs (sm_cells σ - c0) (sm_slots σ - s0) Q (F0 m pc ls (sm_st E σ S)) := by
  obtain ⟨hex, hb, hml, hown, hts, hEF, -⟩ := cx
  obtain ⟨t, k, kd, a4⟩ := a
  rcases sm_a0_s S with q | ⟨j, x, S, rfl⟩
  · exact absurd h (by rw [show sm_I (sm_ZZ X) w C .iaload (t, k, kd, a4) pc _ _ hx L S σ = none from q _]; exact fun z => by cases z)
  obtain ⟨x1, x2⟩ := x
  have hxo : sm_okp (sm_cnt σ) (x1, x2) := hS (vP (x1, x2)) (List.mem_cons_of_mem _ List.mem_cons_self)
  have h : sm_ild X sm_tb t k (x1, x2) j σ (fun v => sm_run (sm_ZZ X) sm_PP w C mn n (pc + 1) L (vI v :: S) σ) = some r := h
  have hok' : (t == 4 || (t == 6 || (decide (30 ≤ t) && (decide (t < 97) && (sm_ak t == (0, k) && !(k == 0)))))) = true := hok
  simp only [Bool.or_eq_true, Bool.and_eq_true, beq_iff_eq, decide_eq_true_eq, Bool.not_eq_true', beq_eq_false_iff_ne] at hok'
  unfold sm_ild at h
  rcases hok' with rfl | rfl | ⟨g1, g2, g3, g4⟩
  · obtain ⟨hz, hh⟩ := sm_rq_s (t := 4) (k := fun _ => sm_ix j X.1 fun z => sm_run (sm_ZZ X) sm_PP w C mn n (pc + 1) L (vI (X.2 z) :: S) σ) h
    dsimp only at hz hh
    subst hz
    obtain ⟨hin, hk⟩ := sm_ix_s hh
    obtain ⟨⟨scr, u1, u2, u3, u4, u5⟩, u6, u7⟩ := hEF.2.2.2.2.2.2.2.2.2.2.1
    have hlt : j.toNatClampNeg < X.1 := Nat.not_le.mp fun q => hin (Or.inr q)
    have g := K _ _ _ _ _ _ _ hk hH hL (hS.tail.tail.cons (v := vI (X.2 j.toNatClampNeg)) trivial) hl hc hs
    exact W.iald (v := .int (X.2 j.toNatClampNeg)) hex hb (by rw [hH.2.1 _ u6]; exact u1) u2 u3 (by rw [u4]; exact hin) (u5 _ hlt) rfl rfl hd g
  · obtain ⟨hz, hh⟩ := sm_rq_s (t := 6) (k := fun i => sm_ix j (sm_tb i).length fun z => sm_run (sm_ZZ X) sm_PP w C mn n (pc + 1) L (vI ((sm_tb i).getD z 0) :: S) σ) h
    dsimp only at hz hh
    subst hz
    obtain ⟨hin, hk⟩ := sm_ix_s hh
    obtain ⟨cell, u1, u2, u3, u4, u5, u6, u7⟩ := (hEF.2.2.2.2.1 x2 (sm_okp_6 hxo)).2
    have hlt : j.toNatClampNeg < (sm_tb x2).length := Nat.not_le.mp fun q => hin (Or.inr q)
    have g := K _ _ _ _ _ _ _ hk hH hL (hS.tail.tail.cons (v := vI ((sm_tb x2).getD j.toNatClampNeg 0)) trivial) hl hc hs
    exact W.iald (v := .int ((sm_tb x2).getD j.toNatClampNeg 0)) hex hb (by rw [sm_low hH u7]; exact u1) u2 u3 (sm_nin hin u4) (u6 _ hlt) rfl rfl hd g
  · rw [sm_bne (show t ≠ 4 by omega), sm_bne (show t ≠ 6 by omega)] at h
    obtain ⟨hz, hh⟩ := sm_rq_s (t := t) (k := fun i => sm_ix j k fun z => sm_run (sm_ZZ X) sm_PP w C mn n (pc + 1) L (vI (σ.1 t i z) :: S) σ) h
    dsimp only at hz hh
    subst hz
    obtain ⟨hin, hk⟩ := sm_ix_s hh
    have hlt : j.toNatClampNeg < k := Nat.not_le.mp fun q => hin (Or.inr q)
    have hi := sm_okp_big (by omega) hxo
    obtain ⟨-, hrow⟩ := hH.row g1 hi
    rw [sm_al_n g3 g4] at hrow
    have harr := (hEF.2.1 x1 g1 g2).1 k (sm_av E σ x1 x2)
    rw [sm_at0 g3] at harr
    have g := K _ _ _ _ _ _ _ hk hH hL (hS.tail.tail.cons (v := vI (σ.1 x1 x2 j.toNatClampNeg)) trivial) hl hc hs
    show W p l e R s m args below meth c H locs _ _ Q (F0 m pc ls (.int j :: va_rf (sm_rp E (sm_ad σ) (x1, x2)) :: sm_st E σ S))
    rw [sm_rp_big (by omega)]
    refine W.iald (v := .int (σ.1 x1 x2 j.toNatClampNeg)) hex hb hrow harr (fun q => by cases q) (by rw [arrV_size]; exact hin) ?_ rfl rfl hd g
    rw [arrV_read _ _ hlt]
    unfold sm_av
    rw [g3]
    rfl
set_option maxHeartbeats 1000000 in
theorem sm_s_bld (cx : sm_Cx E X p s m args meth c mn) (K : sm_K E X w p l e R s m args below meth c mn C r c0 s0 Q n) (hd : decode (sm_bc mn) pc = .ok (.baload, 1)) (hok : sm_okA mn .baload a pc = true)
    (h : sm_I (sm_ZZ X) w C .baload a pc (sm_run (sm_ZZ X) sm_PP w C mn n (pc + 1)) (sm_run (sm_ZZ X) sm_PP w C mn n) hx L S σ = some r) (hH : sm_HR E w σ H) (hL : sm_LR E σ (sm_nl mn) L ls) (hS : sm_SR σ S) (hl : ∀ q ∈ locs, E.1 ≤ q.base) (hc : c0 ≤ sm_cells σ) (hs : s0 ≤ sm_slots σ) :
    W p l e R s m args below meth c H locs (sm_cells σ - c0) (sm_slots σ - s0) Q (F0 m pc ls (sm_st E σ S)) := by
  obtain ⟨hex, hb, hml, hown, hts, hEF, -⟩ := cx
  obtain ⟨t, k, kd, a4⟩ := a
  rcases sm_a0_s S with q | ⟨j, x, S, rfl⟩
  · exact absurd h (by rw [show sm_I (sm_ZZ X) w C .baload (t, k, kd, a4) pc _ _ hx L S σ = none from q _]; exact fun z => by cases z)
  obtain ⟨x1, x2⟩ := x
  have hxo : sm_okp (sm_cnt σ) (x1, x2) := hS (vP (x1, x2)) (List.mem_cons_of_mem _ List.mem_cons_self)
  have h : sm_bld sm_by t k (x1, x2) j σ (fun v => sm_run (sm_ZZ X) sm_PP w C mn n (pc + 1) L (vI v :: S) σ) = some r := h
  have hok' : (t == 7 || (decide (30 ≤ t) && (decide (t < 97) && (sm_ak t == (1, k) && !(k == 0))))) = true := hok
  simp only [Bool.or_eq_true, Bool.and_eq_true, beq_iff_eq, decide_eq_true_eq, Bool.not_eq_true', beq_eq_false_iff_ne] at hok'
  unfold sm_bld at h
  rcases hok' with rfl | ⟨g1, g2, g3, g4⟩
  · obtain ⟨hz, hh⟩ := sm_rq_s (t := 7) (k := fun i => sm_ix j (sm_by i).length fun z => sm_run (sm_ZZ X) sm_PP w C mn n (pc + 1) L (vI ((sm_by i).getD z 0) :: S) σ) h
    dsimp only at hz hh
    subst hz
    obtain ⟨hin, hk⟩ := sm_ix_s hh
    have hi := sm_okp_5 (Or.inr rfl) hxo
    obtain ⟨-, -, -, cell, u1, u2, u3, u4, u5, u6, u7⟩ := hEF.2.2.1.1 x2 hi
    have hlen : sm_len54.getD x2 0 = (sm_by x2).length := by
      unfold sm_len54
      rw [List.getD_eq_getElem?_getD, List.getElem?_map, List.getElem?_range hi]; rfl
    have hbyt : sm_byt54.getD x2 [] = sm_by x2 := by
      unfold sm_byt54
      rw [List.getD_eq_getElem?_getD, List.getElem?_map, List.getElem?_range hi]; rfl
    rw [hlen] at u4 u5 u6
    rw [hbyt] at u6
    have hlt : j.toNatClampNeg < (sm_by x2).length := Nat.not_le.mp fun q => hin (Or.inr q)
    have g := K _ _ _ _ _ _ _ hk hH hL (hS.tail.tail.cons (v := vI ((sm_by x2).getD j.toNatClampNeg 0)) trivial) hl hc hs
    exact W.bald (v := .int ((sm_by x2).getD j.toNatClampNeg 0)) hex hb (by rw [sm_low hH u7]; exact u1) u2 u3 (sm_nin hin u4) (u6 _ hlt) rfl rfl hd g
  · rw [sm_bne (show t ≠ 7 by omega)] at h
    obtain ⟨hz, hh⟩ := sm_rq_s (t := t) (k := fun i => sm_ix j k fun z => sm_run (sm_ZZ X) sm_PP w C mn n (pc + 1) L (vI (σ.1 t i z) :: S) σ) h
    dsimp only at hz hh
    subst hz
    obtain ⟨hin, hk⟩ := sm_ix_s hh
    have hlt : j.toNatClampNeg < k := Nat.not_le.mp fun q => hin (Or.inr q)
    have hi := sm_okp_big (by omega) hxo
    obtain ⟨-, hrow⟩ := hH.row g1 hi
    rw [sm_al_n g3 g4] at hrow
    have harr := (hEF.2.1 x1 g1 g2).1 k (sm_av E σ x1 x2)
    rw [sm_at1 g3] at harr
    have g := K _ _ _ _ _ _ _ hk hH hL (hS.tail.tail.cons (v := vI (σ.1 x1 x2 j.toNatClampNeg)) trivial) hl hc hs
    show W p l e R s m args below meth c H locs _ _ Q (F0 m pc ls (.int j :: va_rf (sm_rp E (sm_ad σ) (x1, x2)) :: sm_st E σ S))
    rw [sm_rp_big (by omega)]
    refine W.bald (v := .int (σ.1 x1 x2 j.toNatClampNeg)) hex hb hrow harr (fun q => by cases q) (by rw [arrV_size]; exact hin) ?_ rfl rfl hd g
    rw [arrV_read _ _ hlt]
    unfold sm_av
    rw [g3]
    rfl
theorem sm_s_lld (cx : sm_Cx E X p s m args meth c mn) (K : sm_K E X w p l e R s m args below meth c mn C r c0 s0 Q n) (hd : decode (sm_bc mn) pc = .ok (.laload, 1)) (hok : sm_okA mn .laload a pc = true)
    (h : sm_I (sm_ZZ X) w C .laload a pc (sm_run (sm_ZZ X) sm_PP w C mn n (pc + 1)) (sm_run (sm_ZZ X) sm_PP w C mn n) hx L S σ = some r) (hH : sm_HR E w σ H) (hL : sm_LR E σ (sm_nl mn) L ls) (hS : sm_SR σ S) (hl : ∀ q ∈ locs, E.1 ≤ q.base) (hc : c0 ≤ sm_cells σ) (hs : s0 ≤ sm_slots σ) :
    W p l e R s m args below meth c H locs (sm_cells σ - c0) (sm_slots σ - s0) Q (F0 m pc ls (sm_st E σ S)) := by
  obtain ⟨hex, hb, hml, hown, hts, hEF, -⟩ := cx
  obtain ⟨t, k, kd, a4⟩ := a
  rcases sm_a0_s S with q | ⟨j, x, S, rfl⟩
  · exact absurd h (by rw [show sm_I (sm_ZZ X) w C .laload (t, k, kd, a4) pc _ _ hx L S σ = none from q _]; exact fun z => by cases z)
  obtain ⟨x1, x2⟩ := x
  have hxo : sm_okp (sm_cnt σ) (x1, x2) := hS (vP (x1, x2)) (List.mem_cons_of_mem _ List.mem_cons_self)
  have hok' : (decide (30 ≤ t) && (decide (t < 97) && (sm_ak t == (2, k) && !(k == 0)))) = true := hok
  simp only [Bool.and_eq_true, beq_iff_eq, decide_eq_true_eq, Bool.not_eq_true', beq_eq_false_iff_ne] at hok'
  obtain ⟨g1, g2, g3, g4⟩ := hok'
  obtain ⟨hz, hh⟩ := sm_rq_s (t := t) (k := fun i => sm_ix j k fun z => sm_run (sm_ZZ X) sm_PP w C mn n (pc + 1) L (vL (σ.2.1 t i z) :: S) σ) h
  dsimp only at hz hh
  subst hz
  obtain ⟨hin, hk⟩ := sm_ix_s hh
  have hlt : j.toNatClampNeg < k := Nat.not_le.mp fun q => hin (Or.inr q)
  have hi := sm_okp_big (by omega) hxo
  obtain ⟨-, hrow⟩ := hH.row g1 hi
  rw [sm_al_n g3 g4] at hrow
  have harr := (hEF.2.1 x1 g1 g2).1 k (sm_av E σ x1 x2)
  rw [sm_at2 g3] at harr
  have g := K _ _ _ _ _ _ _ hk hH hL (hS.tail.tail.cons (v := vL (σ.2.1 x1 x2 j.toNatClampNeg)) trivial) hl hc hs
  show W p l e R s m args below meth c H locs _ _ Q (F0 m pc ls (.int j :: va_rf (sm_rp E (sm_ad σ) (x1, x2)) :: sm_st E σ S))
  rw [sm_rp_big (by omega)]
  refine W.lald (v := .long (σ.2.1 x1 x2 j.toNatClampNeg)) hex hb hrow harr (fun q => by cases q) (by rw [arrV_size]; exact hin) ?_ rfl rfl hd g
  rw [arrV_read _ _ hlt]
  unfold sm_av
  rw [g3]
  rfl
theorem sm_s_ald (cx : sm_Cx E X p s m args meth c mn) (K : sm_K E X w p l e R s m args below meth c mn C r c0 s0 Q n) (hd : decode (sm_bc mn) pc = .ok (.aaload, 1)) (hok : sm_okA mn .aaload a pc = true)
    (h : sm_I (sm_ZZ X) w C .aaload a pc (sm_run (sm_ZZ X) sm_PP w C mn n (pc + 1)) (sm_run (sm_ZZ X) sm_PP w C mn n) hx L S σ = some r) (hH : sm_HR E w σ H) (hL : sm_LR E σ (sm_nl mn) L ls) (hS : sm_SR σ S) (hl : ∀ q ∈ locs, E.1 ≤ q.base) (hc : c0 ≤ sm_cells σ) (hs : s0 ≤ sm_slots σ) :
    W p l e R s m args below meth c H locs (sm_cells σ - c0) (sm_slots σ - s0) Q (F0 m pc ls (sm_st E σ S)) := by
  obtain ⟨hex, hb, hml, hown, hts, hEF, -⟩ := cx
  obtain ⟨t, k, kd, a4⟩ := a
  rcases sm_a0_s S with q | ⟨j, x, S, rfl⟩
  · exact absurd h (by rw [show sm_I (sm_ZZ X) w C .aaload (t, k, kd, a4) pc _ _ hx L S σ = none from q _]; exact fun z => by cases z)
  obtain ⟨x1, x2⟩ := x
  have hxo : sm_okp (sm_cnt σ) (x1, x2) := hS (vP (x1, x2)) (List.mem_cons_of_mem _ List.mem_cons_self)
  have hok' : (decide (30 ≤ t) && (decide (t < 97) && sm_ak t == (3, k))) = true := hok
  simp only [Bool.and_eq_true, beq_iff_eq, decide_eq_true_eq] at hok'
  obtain ⟨g1, g2, g3⟩ := hok'
  obtain ⟨hz, hh⟩ := sm_rq_s (t := t) (k := fun i => sm_ix j (bif k == 0 then σ.2.2.2.1 t i else k) fun z => sm_run (sm_ZZ X) sm_PP w C mn n (pc + 1) L (vP (σ.2.2.1 t i z) :: S) σ) h
  dsimp only at hz hh
  subst hz
  rw [← sm_al_b (σ := σ) (i := x2) g3] at hh
  obtain ⟨hin, hk⟩ := sm_ix_s hh
  have hlt : j.toNatClampNeg < sm_al σ x1 x2 := Nat.not_le.mp fun q => hin (Or.inr q)
  have hi := sm_okp_big (by omega) hxo
  obtain ⟨-, hrow⟩ := hH.row g1 hi
  have harr := (hEF.2.1 x1 g1 g2).1 (sm_al σ x1 x2) (sm_av E σ x1 x2)
  rw [sm_at3 g3] at harr
  have g := K _ _ _ _ _ _ _ hk hH hL (hS.tail.tail.cons (v := vP (σ.2.2.1 x1 x2 j.toNatClampNeg)) (hH.2.2.2.2.2.1 _ _ _)) hl hc hs
  show W p l e R s m args below meth c H locs _ _ Q (F0 m pc ls (.int j :: va_rf (sm_rp E (sm_ad σ) (x1, x2)) :: sm_st E σ S))
  rw [sm_rp_big (by omega)]
  refine W.aald (v := va_rf (sm_rp E (sm_ad σ) (σ.2.2.1 x1 x2 j.toNatClampNeg))) hex hb hrow harr rfl (fun q => by cases q) (by rw [arrV_size]; exact hin) ?_ rfl rfl hd g
  rw [arrV_read _ _ hlt]
  unfold sm_av
  rw [g3]
  rfl
theorem sm_s_alen (cx : sm_Cx E X p s m args meth c mn) (K : sm_K E X w p l e R s m args below meth c mn C r c0 s0 Q n) (hd : decode (sm_bc mn) pc = .ok (.arraylength, 1)) (hok : sm_okA mn .arraylength a pc = true)
    (h : sm_I (sm_ZZ X) w C .arraylength a pc (sm_run (sm_ZZ X) sm_PP w C mn n (pc + 1)) (sm_run (sm_ZZ X) sm_PP w C mn n) hx L S σ = some r) (hH : sm_HR E w σ H) (hL : sm_LR E σ (sm_nl mn) L ls) (hS : sm_SR σ S) (hl : ∀ q ∈ locs, E.1 ≤ q.base) (hc : c0 ≤ sm_cells σ) (hs : s0 ≤ sm_slots σ) :
    W p l e R s m args below meth c H locs (sm_cells σ - c0) (sm_slots σ - s0) Q (F0 m pc ls (sm_st E σ S)) := by
  obtain ⟨hex, hb, hml, hown, hts, hEF, -⟩ := cx
  obtain ⟨t, k, kd, a4⟩ := a
  rcases sm_r1_s S with q | ⟨x, S, rfl⟩
  · exact absurd h (by rw [show sm_I (sm_ZZ X) w C .arraylength (t, k, kd, a4) pc _ _ hx L S σ = none from q _]; exact fun z => by cases z)
  obtain ⟨x1, x2⟩ := x
  have hxo : sm_okp (sm_cnt σ) (x1, x2) := hS (vP (x1, x2)) List.mem_cons_self
  have h : sm_len X sm_tb sm_by t k (x1, x2) σ (fun v => sm_run (sm_ZZ X) sm_PP w C mn n (pc + 1) L (vI v :: S) σ) = some r := h
  have hok' : (t == 4 || (t == 6 || (t == 7 || (decide (30 ≤ t) && (decide (t < 97) && (sm_ak t).2 == k))))) = true := hok
  simp only [Bool.or_eq_true, Bool.and_eq_true, beq_iff_eq, decide_eq_true_eq] at hok'
  unfold sm_len at h
  rcases hok' with rfl | rfl | rfl | ⟨g1, g2, g3⟩
  · obtain ⟨hz, hh⟩ := sm_rq_s (t := 4) (k := fun _ => sm_run (sm_ZZ X) sm_PP w C mn n (pc + 1) L (vI (Int32.ofNat X.1) :: S) σ) h
    dsimp only at hz hh
    subst hz
    obtain ⟨⟨scr, u1, u2, u3, u4, u5⟩, u6, u7⟩ := hEF.2.2.2.2.2.2.2.2.2.2.1
    have g := K _ _ _ _ _ _ _ hh hH hL (hS.tail.cons (v := vI (Int32.ofNat X.1)) trivial) hl hc hs
    exact W.alen (n := Int32.ofNat X.1) hex hb (by rw [hH.2.1 _ u6]; exact u1) u2 (by rw [u4]) rfl rfl hd g
  · obtain ⟨hz, hh⟩ := sm_rq_s (t := 6) (k := fun i => sm_run (sm_ZZ X) sm_PP w C mn n (pc + 1) L (vI (Int32.ofNat (sm_tb i).length) :: S) σ) h
    dsimp only at hz hh
    subst hz
    obtain ⟨cell, u1, u2, u3, u4, u5, u6, u7⟩ := (hEF.2.2.2.2.1 x2 (sm_okp_6 hxo)).2
    have g := K _ _ _ _ _ _ _ hh hH hL (hS.tail.cons (v := vI (Int32.ofNat (sm_tb x2).length)) trivial) hl hc hs
    exact W.alen hex hb (by rw [sm_low hH u7]; exact u1) u2 u5 rfl rfl hd g
  · obtain ⟨hz, hh⟩ := sm_rq_s (t := 7) (k := fun i => sm_run (sm_ZZ X) sm_PP w C mn n (pc + 1) L (vI (Int32.ofNat (sm_by i).length) :: S) σ) h
    dsimp only at hz hh
    subst hz
    have hi := sm_okp_5 (Or.inr rfl) hxo
    obtain ⟨-, -, -, cell, u1, u2, u3, u4, u5, u6, u7⟩ := hEF.2.2.1.1 x2 hi
    have hlen : sm_len54.getD x2 0 = (sm_by x2).length := by
      unfold sm_len54
      rw [List.getD_eq_getElem?_getD, List.getElem?_map, List.getElem?_range hi]; rfl
    rw [hlen] at u5
    have g := K _ _ _ _ _ _ _ hh hH hL (hS.tail.cons (v := vI (Int32.ofNat (sm_by x2).length)) trivial) hl hc hs
    exact W.alen hex hb (by rw [sm_low hH u7]; exact u1) u2 u5 rfl rfl hd g
  · rw [sm_bne (show t ≠ 4 by omega), sm_bne (show t ≠ 6 by omega), sm_bne (show t ≠ 7 by omega)] at h
    obtain ⟨hz, hh⟩ := sm_rq_s (t := t) (k := fun i => sm_run (sm_ZZ X) sm_PP w C mn n (pc + 1) L (vI (Int32.ofNat (bif k == 0 then σ.2.2.2.1 t i else k)) :: S) σ) h
    dsimp only at hz hh
    subst hz
    have hi := sm_okp_big (by omega) hxo
    obtain ⟨-, hrow⟩ := hH.row g1 hi
    have hal : sm_al σ x1 x2 = (bif k == 0 then σ.2.2.2.1 x1 x2 else k) := by unfold sm_al; rw [g3]
    rw [← hal] at hh
    have harr := (hEF.2.1 x1 g1 g2).1 (sm_al σ x1 x2) (sm_av E σ x1 x2)
    have g := K _ _ _ _ _ _ _ hh hH hL (hS.tail.cons (v := vI (Int32.ofNat (sm_al σ x1 x2))) trivial) hl hc hs
    show W p l e R s m args below meth c H locs _ _ Q (F0 m pc ls (va_rf (sm_rp E (sm_ad σ) (x1, x2)) :: sm_st E σ S))
    rw [sm_rp_big (by omega)]
    exact W.alen (n := Int32.ofNat (sm_al σ x1 x2)) hex hb hrow harr (by rw [arrV_size]) rfl rfl hd g
end
