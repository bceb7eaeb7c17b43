section
variable {E : sm_G} {X : Nat × (Nat → Int32)} {w : Bool} {p : Program} {l : Launch} {e : Env} {R : Room} {s : State} {m : MethodId} {args : Array Value} {below : List Frame} {meth : Method} {c : Code} {mn : Nat} {C : sm_C} {r : sm_O × sm_S} {c0 s0 : Nat} {Q : State → Prop} {n : Nat}
variable {len : Nat} {a : Nat × Nat × Nat × Nat} {pc : Nat} {L S : List sm_V} {σ σ' : sm_S} {hx : sm_S → sm_R} {H H' : Heap} {locs : List Loc} {ls : Array Slot}
/-- a row is written: what the heap holds then -/
theorem sm_rowset (hH : sm_HR E w σ H) {t i j : Nat} (h30 : 30 ≤ t) (h97 : t < 97) (hi : i < sm_cnt σ t) (he : σ'.2.2.2 = σ.2.2.2)
    (hm : ∀ t' i' k', ¬ (t' = t ∧ i' = i) → σ'.1 t' i' k' = σ.1 t' i' k' ∧ σ'.2.1 t' i' k' = σ.2.1 t' i' k' ∧ σ'.2.2.1 t' i' k' = σ.2.2.1 t' i' k') (hok : ∀ k, sm_okp (sm_cnt σ) (σ'.2.2.1 t i k))
    {v : Value} (hav : updV (sm_av E σ t i) j v = sm_av E σ' t i) (e1 : H'[E.1 + sm_ad σ t i]? = some ((arrV (E.2.2.2.2.2.2.2.1 t) (sm_al σ t i) (sm_av E σ t i)).setSlot j v)) (e2 : H'.size = H.size) (e3 : ∀ q, q ≠ E.1 + sm_ad σ t i → H'[q]? = H[q]?) : sm_HR E w σ' H' := by
  have ead : sm_ad σ' = sm_ad σ := by show σ'.2.2.2.2.2.1 = _; rw [he]
  have eal : sm_al σ' t i = sm_al σ t i := by unfold sm_al; rw [show σ'.2.2.2.1 = σ.2.2.2.1 by rw [he]]
  refine hH.set (by omega) hi he hm hok e2 e3 (Or.inr (Or.inr ⟨h30, h97, ?_⟩))
  rw [ead, eal, e1, arrV_store, hav]
theorem sm_locs {q0 : Loc} (hl : ∀ q ∈ locs, E.1 ≤ q.base) (h0 : E.1 ≤ q0.base) : ∀ q ∈ locs ++ [q0], E.1 ≤ q.base := fun q hq => by
  rcases List.mem_append.mp hq with z | z
  · exact hl q z
  · rw [List.mem_singleton.mp z]; exact h0
set_option maxHeartbeats 1000000 in
theorem sm_s_ist (cx : sm_Cx E X p s m args meth c mn) (K : sm_K E X w p l e R s m args below meth c mn C r c0 s0 Q n) (hd : decode (sm_bc mn) pc = .ok (.iastore, 1)) (hok : sm_okA mn .iastore a pc = true)
    (h : sm_I (sm_ZZ X) w C .iastore a pc (sm_run (sm_ZZ X) sm_PP w C mn n (pc + 1)) (sm_run (sm_ZZ X) sm_PP w C mn n) hx L S σ = some r) (hH : sm_HR E w σ H) (hL : sm_LR E σ (sm_nl mn) L ls) (hS : sm_SR σ S) (hl : ∀ q ∈ locs, E.1 ≤ q.base) (hc : c0 ≤ sm_cells σ) (hs : s0 ≤ sm_slots σ) :
    W p l e R s m args below meth c H locs (sm_cells σ - c0) (sm_slots σ - s0) Q (F0 m pc ls (sm_st E σ S)) := by
  obtain ⟨hex, hb, hml, hown, hts, hEF, -⟩ := cx
  obtain ⟨t, k, kd, a4⟩ := a
  rcases sm_aI_s S with q | ⟨v, j, x, S, rfl⟩
  · exact absurd h (by rw [show sm_I (sm_ZZ X) w C .iastore (t, k, kd, a4) pc _ _ hx L S σ = none from q _]; exact fun z => by cases z)
  obtain ⟨x1, x2⟩ := x
  have hxo : sm_okp (sm_cnt σ) (x1, x2) := hS (vP (x1, x2)) (List.mem_cons_of_mem _ (List.mem_cons_of_mem _ List.mem_cons_self))
  have hok' : (decide (30 ≤ t) && (decide (t < 97) && (sm_ak t == (0, k) && !(k == 0)))) = true := hok
  simp only [Bool.and_eq_true, beq_iff_eq, decide_eq_true_eq, Bool.not_eq_true', beq_eq_false_iff_ne] at hok'
  obtain ⟨g1, g2, g3, g4⟩ := hok'
  obtain ⟨hz, hh⟩ := sm_rq_s (t := t) (k := fun i => sm_ix j k fun z => sm_run (sm_ZZ X) sm_PP w C mn n (pc + 1) L S (sI σ t i z v)) h
  dsimp only at hz hh
  subst hz
  obtain ⟨hin, hk⟩ := sm_ix_s hh
  have hi := sm_okp_big (by omega) hxo
  obtain ⟨-, hrow⟩ := hH.row g1 hi
  have harr := (hEF.2.1 x1 g1 g2).1 (sm_al σ x1 x2) (sm_av E σ x1 x2)
  rw [sm_at0 g3] at harr
  show W p l e R s m args below meth c H locs _ _ Q (F0 m pc ls (.int v :: .int j :: va_rf (sm_rp E (sm_ad σ) (x1, x2)) :: sm_st E σ S))
  rw [sm_rp_big (by omega)]
  refine W.iast hex hb hrow harr (fun q => by cases q) (by rw [arrV_size, sm_al_n g3 g4]; exact hin) rfl rfl hd fun H' e1 e2 e3 => ?_
  refine K (pc + 1) L S (sI σ x1 x2 j.toNatClampNeg v) H' _ ls hk (sm_rowset (σ' := (sI σ x1 x2 j.toNatClampNeg v)) hH g1 g2 hi rfl (fun t' i' k' hne => ⟨sm_up3_ne hne, rfl, rfl⟩) (fun k' => hH.2.2.2.2.2.1 _ _ _) ?_ e1 e2 e3) (hL.same rfl) hS.tail.tail.tail (sm_locs hl (Nat.le_add_right _ _)) hc hs
  funext z
  unfold updV sm_av
  rw [g3]
  show (if z = _ then Value.int v else .int (σ.1 x1 x2 z)) = .int (sm_up3 σ.1 x1 x2 j.toNatClampNeg v x1 x2 z)
  rw [sm_up3_k]
  split <;> rfl
set_option maxHeartbeats 1000000 in
theorem sm_s_bst (cx : sm_Cx E X p s m args meth c mn) (K : sm_K E X w p l e R s m args below meth c mn C r c0 s0 Q n) (hd : decode (sm_bc mn) pc = .ok (.bastore, 1)) (hok : sm_okA mn .bastore a pc = true)
    (h : sm_I (sm_ZZ X) w C .bastore a pc (sm_run (sm_ZZ X) sm_PP w C mn n (pc + 1)) (sm_run (sm_ZZ X) sm_PP w C mn n) hx L S σ = some r) (hH : sm_HR E w σ H) (hL : sm_LR E σ (sm_nl mn) L ls) (hS : sm_SR σ S) (hl : ∀ q ∈ locs, E.1 ≤ q.base) (hc : c0 ≤ sm_cells σ) (hs : s0 ≤ sm_slots σ) :
    W p l e R s m args below meth c H locs (sm_cells σ - c0) (sm_slots σ - s0) Q (F0 m pc ls (sm_st E σ S)) := by
  obtain ⟨hex, hb, hml, hown, hts, hEF, -⟩ := cx
  obtain ⟨t, k, kd, a4⟩ := a
  rcases sm_aI_s S with q | ⟨v, j, x, S, rfl⟩
  · exact absurd h (by rw [show sm_I (sm_ZZ X) w C .bastore (t, k, kd, a4) pc _ _ hx L S σ = none from q _]; exact fun z => by cases z)
  obtain ⟨x1, x2⟩ := x
  have hxo : sm_okp (sm_cnt σ) (x1, x2) := hS (vP (x1, x2)) (List.mem_cons_of_mem _ (List.mem_cons_of_mem _ List.mem_cons_self))
  have hok' : (decide (30 ≤ t) && (decide (t < 97) && (sm_ak t == (1, k) && !(k == 0)))) = true := hok
  simp only [Bool.and_eq_true, beq_iff_eq, decide_eq_true_eq, Bool.not_eq_true', beq_eq_false_iff_ne] at hok'
  obtain ⟨g1, g2, g3, g4⟩ := hok'
  obtain ⟨hz, hh⟩ := sm_rq_s (t := t) (k := fun i => sm_ix j k fun z => sm_run (sm_ZZ X) sm_PP w C mn n (pc + 1) L S (sI σ t i z v.toInt8.toInt32)) h
  dsimp only at hz hh
  subst hz
  obtain ⟨hin, hk⟩ := sm_ix_s hh
  have hi := sm_okp_big (by omega) hxo
  obtain ⟨-, hrow⟩ := hH.row g1 hi
  have harr := (hEF.2.1 x1 g1 g2).1 (sm_al σ x1 x2) (sm_av E σ x1 x2)
  rw [sm_at1 g3] at harr
  show W p l e R s m args below meth c H locs _ _ Q (F0 m pc ls (.int v :: .int j :: va_rf (sm_rp E (sm_ad σ) (x1, x2)) :: sm_st E σ S))
  rw [sm_rp_big (by omega)]
  refine W.bast hex hb hrow harr (fun q => by cases q) (by rw [arrV_size, sm_al_n g3 g4]; exact hin) rfl rfl hd fun H' e1 e2 e3 => ?_
  refine K (pc + 1) L S (sI σ x1 x2 j.toNatClampNeg v.toInt8.toInt32) H' _ ls hk (sm_rowset (σ' := (sI σ x1 x2 j.toNatClampNeg v.toInt8.toInt32)) hH g1 g2 hi rfl (fun t' i' k' hne => ⟨sm_up3_ne hne, rfl, rfl⟩) (fun k' => hH.2.2.2.2.2.1 _ _ _) ?_ e1 e2 e3) (hL.same rfl) hS.tail.tail.tail (sm_locs hl (Nat.le_add_right _ _)) hc hs
  funext z
  unfold updV sm_av
  rw [g3]
  show (if z = _ then Value.int v.toInt8.toInt32 else .int (σ.1 x1 x2 z)) = .int (sm_up3 σ.1 x1 x2 j.toNatClampNeg v.toInt8.toInt32 x1 x2 z)
  rw [sm_up3_k]
  split <;> rfl
set_option maxHeartbeats 1000000 in
theorem sm_s_lst (cx : sm_Cx E X p s m args meth c mn) (K : sm_K E X w p l e R s m args below meth c mn C r c0 s0 Q n) (hd : decode (sm_bc mn) pc = .ok (.lastore, 1)) (hok : sm_okA mn .lastore a pc = true)
    (h : sm_I (sm_ZZ X) w C .lastore a pc (sm_run (sm_ZZ X) sm_PP w C mn n (pc + 1)) (sm_run (sm_ZZ X) sm_PP w C mn n) hx L S σ = some r) (hH : sm_HR E w σ H) (hL : sm_LR E σ (sm_nl mn) L ls) (hS : sm_SR σ S) (hl : ∀ q ∈ locs, E.1 ≤ q.base) (hc : c0 ≤ sm_cells σ) (hs : s0 ≤ sm_slots σ) :
    W p l e R s m args below meth c H locs (sm_cells σ - c0) (sm_slots σ - s0) Q (F0 m pc ls (sm_st E σ S)) := by
  obtain ⟨hex, hb, hml, hown, hts, hEF, -⟩ := cx
  obtain ⟨t, k, kd, a4⟩ := a
  rcases sm_aL_s S with q | ⟨v, j, x, S, rfl⟩
  · exact absurd h (by rw [show sm_I (sm_ZZ X) w C .lastore (t, k, kd, a4) pc _ _ hx L S σ = none from q _]; exact fun z => by cases z)
  obtain ⟨x1, x2⟩ := x
  have hxo : sm_okp (sm_cnt σ) (x1, x2) := hS (vP (x1, x2)) (List.mem_cons_of_mem _ (List.mem_cons_of_mem _ List.mem_cons_self))
  have hok' : (decide (30 ≤ t) && (decide (t < 97) && (sm_ak t == (2, k) && !(k == 0)))) = true := hok
  simp only [Bool.and_eq_true, beq_iff_eq, decide_eq_true_eq, Bool.not_eq_true', beq_eq_false_iff_ne] at hok'
  obtain ⟨g1, g2, g3, g4⟩ := hok'
  obtain ⟨hz, hh⟩ := sm_rq_s (t := t) (k := fun i => sm_ix j k fun z => sm_run (sm_ZZ X) sm_PP w C mn n (pc + 1) L S (sL σ t i z v)) h
  dsimp only at hz hh
  subst hz
  obtain ⟨hin, hk⟩ := sm_ix_s hh
  have hi := sm_okp_big (by omega) hxo
  obtain ⟨-, hrow⟩ := hH.row g1 hi
  have harr := (hEF.2.1 x1 g1 g2).1 (sm_al σ x1 x2) (sm_av E σ x1 x2)
  rw [sm_at2 g3] at harr
  show W p l e R s m args below meth c H locs _ _ Q (F0 m pc ls (.long v :: .int j :: va_rf (sm_rp E (sm_ad σ) (x1, x2)) :: sm_st E σ S))
  rw [sm_rp_big (by omega)]
  refine W.last hex hb hrow harr (fun q => by cases q) (by rw [arrV_size, sm_al_n g3 g4]; exact hin) rfl rfl hd fun H' e1 e2 e3 => ?_
  refine K (pc + 1) L S (sL σ x1 x2 j.toNatClampNeg v) H' _ ls hk (sm_rowset (σ' := (sL σ x1 x2 j.toNatClampNeg v)) hH g1 g2 hi rfl (fun t' i' k' hne => ⟨rfl, sm_up3_ne hne, rfl⟩) (fun k' => hH.2.2.2.2.2.1 _ _ _) ?_ e1 e2 e3) (hL.same rfl) hS.tail.tail.tail (sm_locs hl (Nat.le_add_right _ _)) hc hs
  funext z
  unfold updV sm_av
  rw [g3]
  show (if z = _ then Value.long v else .long (σ.2.1 x1 x2 z)) = .long (sm_up3 σ.2.1 x1 x2 j.toNatClampNeg v x1 x2 z)
  rw [sm_up3_k]
  split <;> rfl
set_option maxHeartbeats 1000000 in
theorem sm_s_ast (cx : sm_Cx E X p s m args meth c mn) (K : sm_K E X w p l e R s m args below meth c mn C r c0 s0 Q n) (hd : decode (sm_bc mn) pc = .ok (.aastore, 1)) (hok : sm_okA mn .aastore a pc = true)
    (h : sm_I (sm_ZZ X) w C .aastore a pc (sm_run (sm_ZZ X) sm_PP w C mn n (pc + 1)) (sm_run (sm_ZZ X) sm_PP w C mn n) hx L S σ = some r) (hH : sm_HR E w σ H) (hL : sm_LR E σ (sm_nl mn) L ls) (hS : sm_SR σ S) (hl : ∀ q ∈ locs, E.1 ≤ q.base) (hc : c0 ≤ sm_cells σ) (hs : s0 ≤ sm_slots σ) :
    W p l e R s m args below meth c H locs (sm_cells σ - c0) (sm_slots σ - s0) Q (F0 m pc ls (sm_st E σ S)) := by
  obtain ⟨hex, hb, hml, hown, hts, hEF, -⟩ := cx
  obtain ⟨t, k, et, a4⟩ := a
  rcases sm_aR_s S with q | ⟨v, j, x, S, rfl⟩
  · exact absurd h (by rw [show sm_I (sm_ZZ X) w C .aastore (t, k, et, a4) pc _ _ hx L S σ = none from q _]; exact fun z => by cases z)
  obtain ⟨x1, x2⟩ := x
  have hvo : sm_okp (sm_cnt σ) v := hS (vP v) List.mem_cons_self
  have hxo : sm_okp (sm_cnt σ) (x1, x2) := hS (vP (x1, x2)) (List.mem_cons_of_mem _ (List.mem_cons_of_mem _ List.mem_cons_self))
  have hok' : (decide (30 ≤ t) && (decide (t < 97) && (sm_ak t == (3, k) && (decide (10 ≤ et) && (decide (et < 24) && sm_cR et == sm_ae t))))) = true := hok
  simp only [Bool.and_eq_true, beq_iff_eq, decide_eq_true_eq] at hok'
  obtain ⟨g1, g2, g3, g4, g5, g6⟩ := hok'
  obtain ⟨hz, hh⟩ := sm_rq_s (t := t) (k := fun i => sm_ix j (bif k == 0 then σ.2.2.2.1 t i else k) fun z => if v.1 = 0 ∨ v.1 = et then sm_run (sm_ZZ X) sm_PP w C mn n (pc + 1) L S (sR σ t i z v) else none) h
  dsimp only at hz hh
  subst hz
  rw [← sm_al_b (σ := σ) (i := x2) g3] at hh
  obtain ⟨hin, hk⟩ := sm_ix_s hh
  have hi := sm_okp_big (by omega) hxo
  obtain ⟨-, hrow⟩ := hH.row g1 hi
  obtain ⟨harr, hra⟩ := hEF.2.1 x1 g1 g2
  have harr := harr (sm_al σ x1 x2) (sm_av E σ x1 x2)
  rw [sm_at3 g3] at harr hra
  by_cases hv0 : v.1 = 0 ∨ v.1 = et
  · rw [if_pos hv0] at hk
    have fin : ∀ H' : Heap, H'[E.1 + sm_ad σ x1 x2]? = some ((arrV (E.2.2.2.2.2.2.2.1 x1) (sm_al σ x1 x2) (sm_av E σ x1 x2)).setSlot j.toNatClampNeg (va_rf (sm_rp E (sm_ad σ) v))) → H'.size = H.size → (∀ q, q ≠ E.1 + sm_ad σ x1 x2 → H'[q]? = H[q]?) → W p l e R s m args below meth c H' (locs ++ [⟨E.1 + sm_ad σ x1 x2, j.toNatClampNeg⟩]) (sm_cells σ - c0) (sm_slots σ - s0) Q (F0 m (pc + 1) ls (sm_st E σ S)) := by
      intro H' e1 e2 e3
      refine K (pc + 1) L S (sR σ x1 x2 j.toNatClampNeg v) H' _ ls hk (sm_rowset (σ' := (sR σ x1 x2 j.toNatClampNeg v)) hH g1 g2 hi rfl (fun t' i' k' hne => ⟨rfl, rfl, sm_up3_ne hne⟩) (fun k' => ?_) ?_ e1 e2 e3) (hL.same rfl) hS.tail.tail.tail (sm_locs hl (Nat.le_add_right _ _)) hc hs
      · show sm_okp _ (sm_up3 σ.2.2.1 x1 x2 j.toNatClampNeg v x1 x2 k')
        rw [sm_up3_k]
        split
        · exact hvo
        · exact hH.2.2.2.2.2.1 _ _ _
      · funext z
        unfold updV sm_av
        rw [g3]
        show (if z = _ then va_rf (sm_rp E (sm_ad σ) v) else va_rf (sm_rp E (sm_ad σ) (σ.2.2.1 x1 x2 z))) = va_rf (sm_rp E (sm_ad σ) (sm_up3 σ.2.2.1 x1 x2 j.toNatClampNeg v x1 x2 z))
        rw [sm_up3_k]
        split <;> rfl
    show W p l e R s m args below meth c H locs _ _ Q (F0 m pc ls (va_rf (sm_rp E (sm_ad σ) v) :: .int j :: va_rf (sm_rp E (sm_ad σ) (x1, x2)) :: sm_st E σ S))
    rw [sm_rp_big (t := x1) (by omega)]
    by_cases hv1 : v.1 = 0
    · rw [sm_rp_none.mpr hv1] at fin ⊢
      exact va_WaastN hex hb hrow harr (fun q => by cases q) (by rw [arrV_size]; exact hin) rfl rfl hd fin
    · have hve : v.1 = et := hv0.resolve_left hv1
      obtain ⟨v1, v2⟩ := v
      dsimp only at hve
      subst hve
      have hvi := sm_okp_big g4 hvo
      obtain ⟨cellV, q1, q2, q3, q4⟩ := hH.obj g4 g5 hvi
      obtain ⟨hSl, hcls⟩ := hEF.1 v1 g4 g5
      obtain ⟨kA, comp, k1, k2, k3, -⟩ := hra
      rw [← g6] at k3
      have hcomp : comp = E.2.2.2.2.2.2.1.1 (v1 - 10) := Option.some.inj (k3.symm.trans hcls.1)
      subst hcomp
      obtain ⟨kC, hkC, -⟩ := hcls.2
      rw [sm_rp_big g4] at fin ⊢
      exact W.aast hex hb hrow (fun q h => by cases h) (fun h => by cases h) k1 k2 rfl hkC ⟨fun q => hin (Or.inl q), by rw [arrV_size]; exact Nat.not_le.mp fun q => hin (Or.inr q)⟩ q1 (fun q h => by rw [q3] at h; cases h) (by rw [q2]; exact hkC) (by rw [q2]; exact va_assign hcls) rfl rfl hd fin
  · rw [if_neg hv0] at hk; cases hk
end
