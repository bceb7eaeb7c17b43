section
variable {E : sm_G} {X : Nat × (Nat → Int32)} {w : Bool} {p : Program} {l : Launch} {e : Env} {R : Room} {s : State} {m : MethodId} {args : Array Value} {below : List Frame} {meth : Method} {c : Code} {mn : Nat} {C : sm_C} {r : sm_O × sm_S} {c0 s0 : Nat} {Q : State → Prop} {n : Nat}
variable {len : Nat} {a : Nat × Nat × Nat × Nat} {pc : Nat} {L S : List sm_V} {σ σ' : sm_S} {hx : sm_S → sm_R} {H : Heap} {locs : List Loc} {ls : Array Slot}
theorem sm_own_cR : ∀ t, 10 ≤ t → t < 24 → t ≠ 11 → sm_cn (t - 10) = sm_cR t := by
  have h : ∀ u, u < 14 → u ≠ 1 → sm_cn u = sm_cR (u + 10) := by decide +kernel
  intro t h1 h2 h3
  rw [h (t - 10) (by omega) (by omega), Nat.sub_add_cancel h1]
set_option maxHeartbeats 1000000 in
/-- a field is written -/
theorem sm_put (cx : sm_Cx E X p s m args meth c mn) {i t k x kd cells slots : Nat} (hd : decode (sm_bc mn) pc = .ok (.putfield i, 3)) (hH : sm_HR E w σ H) (hl : ∀ q ∈ locs, E.1 ≤ q.base)
    (h10 : 10 ≤ t) (h24 : t < 24) (hkd : (sm_fk t)[k]? = some kd) (hi : x < sm_cnt σ t)
    (hlink : ((Cond.fieldLink (sm_cn (sm_ow mn)) i (sm_cR t) (sm_cT t k).2.1 (sm_cT t k).2.2.1).before args s = true ∧ ((sm_cT t k).2.2.2 = true → sm_kn mn = 2 ∧ sm_ow mn = t - 10)) ∨ ((Cond.fieldLinkNest (sm_cn (sm_ow mn)) i (sm_cR t) (sm_cT t k).2.1 (sm_cT t k).2.2.1 "FreightYardsModel").before args s = true ∧ (sm_cT t k).2.2.2 = false))
    {v : Value} {rest : List Value} (hn : narrow (sm_cty t k) v = v) (hfit : fits (sm_cty t k) v = true) (he : σ'.2.2.2 = σ.2.2.2)
    (hm : ∀ t' i' k', ¬ (t' = t ∧ i' = x) → σ'.1 t' i' k' = σ.1 t' i' k' ∧ σ'.2.1 t' i' k' = σ.2.1 t' i' k' ∧ σ'.2.2.1 t' i' k' = σ.2.2.1 t' i' k') (hok : ∀ k, sm_okp (sm_cnt σ) (σ'.2.2.1 t x k))
    (hfv : ∀ j, j < (sm_fk t).length → updV (sm_fv E w σ t x) k v j = sm_fv E w σ' t x j)
    (kk : ∀ H' locs', sm_HR E w σ' H' → (∀ q ∈ locs', E.1 ≤ q.base) → W p l e R s m args below meth c H' locs' cells slots Q (F0 m (pc + 3) ls rest)) :
    W p l e R s m args below meth c H locs cells slots Q (F0 m pc ls (v :: .ref (E.1 + sm_ad σ t x) :: rest)) := by
  obtain ⟨hex, hb, hml, hown, hts, hEF, -, -, hinit, -⟩ := cx
  have hkl : k < (sm_fk t).length := (List.getElem?_eq_some_iff.mp hkd).1
  obtain ⟨cell, q1, q2, q3, q4⟩ := hH.obj h10 h24 hi
  obtain ⟨hSl, hfc, kC, hkC, hkind⟩ := hEF.1 t h10 h24
  obtain ⟨cf, kf, fi, f, hfi, hsl⟩ := hSl k hkl
  have hin := sm_uw t h10 h24
  have hst := (u_facts hfc hkC (u_lays hts hin hkl) hfi).1
  have hty := sm_cty_ok t h10 h24
  have hap : ∀ x y, x < (sm_fk t).length → y < (sm_fk t).length → x ≠ y → (E.2.2.2.2.2.2.1.2 (t - 10)) x ≠ (E.2.2.2.2.2.2.1.2 (t - 10)) y := by
    intro x y hx hy hne
    obtain ⟨_, _, _, fa, hia, ea⟩ := hSl x hx
    obtain ⟨_, _, _, fb, hib, eb⟩ := hSl y hy
    rw [← ea, ← eb]
    refine u_apart (u_lays hts hin hx) (u_lays hts hin hy) hia hib ?_
    rw [(State.fieldFound?_type hia (hty x hx)).1, (State.fieldFound?_type hib (hty y hy)).1]
    exact sm_cnm t h10 h24 x hx y hy hne
  have hdecl := sm_cdecl t h10 h24 k hkl
  have hfi' := hfi
  rw [hdecl] at hfi'
  have hslot : f.slot < cell.slots.size := by rw [hsl]; exact k2_hasslot (q4 k hkl)
  have fin : ∀ H' : Heap, H'[E.1 + sm_ad σ t x]? = some (cell.setSlot f.slot v) → H'.size = H.size → (∀ q, q ≠ E.1 + sm_ad σ t x → H'[q]? = H[q]?) → W p l e R s m args below meth c H' (locs ++ [⟨E.1 + sm_ad σ t x, f.slot⟩]) cells slots Q (F0 m (pc + 3) ls rest) := by
    intro H' e1 e2 e3
    have ead : sm_ad σ' = sm_ad σ := by show σ'.2.2.2.2.2.1 = _; rw [he]
    rw [hsl] at e1
    refine kk H' _ (hH.set h10 hi he hm hok e2 e3 (Or.inl ⟨h24, ?_⟩)) (fun q hq => ?_)
    · rw [ead]
      exact t_OB.to (V := updV (sm_fv E w σ t x) k v) ⟨_, e1, q2, q3, t_set q4 hap hkl v⟩ hfv
    · rcases List.mem_append.mp hq with z | z
      · exact hl q z
      · rw [List.mem_singleton.mp z]; exact Nat.le_add_right _ _
  have hlay := hts _ (hin _ (u_in_lay hkl))
  unfold u_lay at hlay
  by_cases hfin : (sm_cT t k).2.2.2 = true
  · rw [if_pos hfin] at hlay
    rcases hlink with ⟨hlink, hf⟩ | ⟨hlink, hf⟩
    · obtain ⟨g1, g2⟩ := hf hfin
      have hcf : m.cls = cf := by
        obtain ⟨_, _, c', _, _, _, -, -, hf', -, -, -, hown2, -⟩ := Cond.laysFinal_spec hlay
        have e1 : c' = cf := by have := hfi.symm.trans hf'; simp at this; exact this.1.symm
        rw [hdecl] at hown2
        rw [g2, sm_own_cR t h10 h24 (fun q => by rw [q] at hkd; cases hkd)] at hown
        rw [← e1]; exact Option.some.inj (hown.symm.trans hown2)
      have h6 := u_fits hfc hkC hkind (Or.inr hlay) hfi (hty k hkl) hn hfit
      exact W.putFinK hex hb hown hlink hfi' hst hcf (hinit g1) (by rw [q2]; exact h6) q1 q3 hslot rfl rfl hd fin
    · rw [hf] at hfin; cases hfin
  · rw [if_neg hfin] at hlay
    have h6 := u_store hfc hkC hkind hlay hfi (hty k hkl) hn hfit
    rcases hlink with ⟨hlink, hf⟩ | ⟨hlink, hf⟩
    · exact W.putK hex hb (f := f) ⟨hown, hlink, ⟨_, _, _, hfi'⟩, hst⟩ (by rw [q2]; exact h6) q1 q3 hslot rfl rfl hd fin
    · exact va_WputK hex hb (f := f) hown hlink hfi' hst (by rw [q2]; exact h6) q1 q3 hslot rfl rfl hd fin
/-- what a field holds in the new state -/
theorem sm_fv_up {t x k kd : Nat} (hkd : (sm_fk t)[k]? = some kd) (he : σ'.2.2.2 = σ.2.2.2) {v : Value} (hm : ∀ j, j ≠ k → σ'.1 t x j = σ.1 t x j ∧ σ'.2.1 t x j = σ.2.1 t x j ∧ σ'.2.2.1 t x j = σ.2.2.1 t x j) (hv : v = sm_rv E (sm_ad σ) (sm_gf w t k kd x σ')) : ∀ j, j < (sm_fk t).length → updV (sm_fv E w σ t x) k v j = sm_fv E w σ' t x j := by
  intro j _
  have ead : sm_ad σ' = sm_ad σ := by show σ'.2.2.2.2.2.1 = _; rw [he]
  unfold updV
  by_cases hj : j = k
  · rw [if_pos hj, hj, hv]
    unfold sm_fv
    rw [ead, List.getD_eq_getElem?_getD, hkd]
    rfl
  · rw [if_neg hj]
    unfold sm_fv
    rw [ead]
    obtain ⟨a, b, c⟩ := hm j hj
    have : sm_gf w t j ((sm_fk t).getD j 0) x σ' = sm_gf w t j ((sm_fk t).getD j 0) x σ := by unfold sm_gf; rw [a, b, c]
    rw [this]
theorem sm_e4_sI {t i k : Nat} {v : Int32} : (sI σ t i k v).2.2.2 = σ.2.2.2 := rfl
theorem sm_LRs (he : σ'.2.2.2 = σ.2.2.2) (hS : sm_SR σ S) : sm_SR σ' S ∧ sm_st E σ' S = sm_st E σ S ∧ sm_cells σ' = sm_cells σ ∧ sm_slots σ' = sm_slots σ := by
  have e1 : sm_cnt σ' = sm_cnt σ := by show σ'.2.2.2.2.1 = _; rw [he]
  have e2 : sm_ad σ' = sm_ad σ := by show σ'.2.2.2.2.2.1 = _; rw [he]
  refine ⟨?_, ?_, by show σ'.2.2.2.2.2.2.1 = _; rw [he], by show σ'.2.2.2.2.2.2.2 = _; rw [he]⟩
  · unfold sm_SR; rw [e1]; exact hS
  · unfold sm_st; rw [e2]
theorem sm_tyk_ref {ty : FieldType} {kd : Nat} (h : sm_tyk ty kd = true) (hk : kd = 2 ∨ 10 ≤ kd) (o : Option Nat) : narrow ty (va_rf o) = va_rf o ∧ fits ty (va_rf o) = true := by
  cases ty <;> simp [sm_tyk] at h <;> first | omega | (cases o <;> exact ⟨rfl, rfl⟩)
theorem sm_tyk_I {ty : FieldType} (h : sm_tyk ty 0 = true) : ty = .int := by cases ty <;> simp [sm_tyk] at h <;> rfl
theorem sm_tyk_Z {ty : FieldType} (h : sm_tyk ty 3 = true) : ty = .boolean := by cases ty <;> simp [sm_tyk] at h <;> rfl
theorem sm_tyk_J {ty : FieldType} (h : sm_tyk ty 1 = true) : ty = .long := by cases ty <;> simp [sm_tyk] at h <;> rfl
theorem sm_tyk_no {ty : FieldType} {kd : Nat} (h : sm_tyk ty kd = true) (h1 : 4 ≤ kd) (h2 : kd < 10) : False := by cases ty <;> simp [sm_tyk] at h <;> omega
theorem sm_up3_self {α : Type} {f : Nat → Nat → Nat → α} {t i k : Nat} {v : α} : sm_up3 f t i k v t i k = v := by simp [sm_up3]
theorem sm_up3_nk {α : Type} {f : Nat → Nat → Nat → α} {t i k j : Nat} {v : α} (h : j ≠ k) : sm_up3 f t i k v t i j = f t i j := by simp [sm_up3, h]
set_option maxHeartbeats 2000000 in
theorem sm_s_putf (cx : sm_Cx E X p s m args meth c mn) (K : sm_K E X w p l e R s m args below meth c mn C r c0 s0 Q n) {i : Nat} (hd : decode (sm_bc mn) pc = .ok (.putfield i, 3)) (hok : sm_okA mn (.putfield i) a pc = true)
    (h : sm_I (sm_ZZ X) w C (.putfield i) a pc (sm_run (sm_ZZ X) sm_PP w C mn n (pc + 3)) (sm_run (sm_ZZ X) sm_PP w C mn n) hx L S σ = some r) (hH : sm_HR E w σ H) (hL : sm_LR E σ (sm_nl mn) L ls) (hS : sm_SR σ S) (hl : ∀ q ∈ locs, E.1 ≤ q.base) (hc : c0 ≤ sm_cells σ) (hs : s0 ≤ sm_slots σ) :
    W p l e R s m args below meth c H locs (sm_cells σ - c0) (sm_slots σ - s0) Q (F0 m pc ls (sm_st E σ S)) := by
  have cx' := cx
  obtain ⟨hex, hb, hml, hown, hts, hEF, -, -, hinit, -⟩ := cx'
  obtain ⟨t, k, kd, a4⟩ := a
  have hok' : ((decide (10 ≤ t) && (decide (t < 24) && (sm_fk t)[k]? == some kd)) && ((sm_has5 sm_fl (sm_ow mn) i t k && (bif (sm_cT t k).2.2.2 then sm_kn mn == 2 && sm_ow mn == t - 10 else true)) || (sm_has5 sm_fn (sm_ow mn) i t k && !(sm_cT t k).2.2.2))) = true := hok
  simp only [Bool.or_eq_true, Bool.and_eq_true, beq_iff_eq, decide_eq_true_eq, Bool.not_eq_true'] at hok'
  obtain ⟨⟨h10, h24, hkd⟩, hlk⟩ := hok'
  have hkl : k < (sm_fk t).length := (List.getElem?_eq_some_iff.mp hkd).1
  have hlink : ((Cond.fieldLink (sm_cn (sm_ow mn)) i (sm_cR t) (sm_cT t k).2.1 (sm_cT t k).2.2.1).before args s = true ∧ ((sm_cT t k).2.2.2 = true → sm_kn mn = 2 ∧ sm_ow mn = t - 10)) ∨ ((Cond.fieldLinkNest (sm_cn (sm_ow mn)) i (sm_cR t) (sm_cT t k).2.1 (sm_cT t k).2.2.1 "FreightYardsModel").before args s = true ∧ (sm_cT t k).2.2.2 = false) := by
    rcases hlk with ⟨g1, g2⟩ | ⟨g1, g2⟩
    · refine Or.inl ⟨?_, fun hf => ?_⟩
      · have hw : (sm_flw (sm_ow mn, i, t, k, 0)).before args s = true := hts _ (sm_fl_w g1)
        unfold sm_flw at hw
        dsimp only at hw
        rw [show (t == 5) = false by simp; omega] at hw
        exact hw
      · rw [hf] at g2
        simp only [cond_true, Bool.and_eq_true, beq_iff_eq] at g2
        exact g2
    · refine Or.inr ⟨?_, g2⟩
      obtain ⟨q, hq, e1, e2, e3, e4⟩ := sm_has5_s g1
      have := hEF.2.2.2.2.2.2.2.1 q hq
      unfold sm_fnw at this
      rw [e1, e2, e3, e4] at this
      exact va_Nw.use rfl this
  have hty := sm_ctyk t h10 h24 k hkl
  rw [List.getD_eq_getElem?_getD, hkd, Option.getD_some] at hty
  have h : sm_pf w t k kd S σ (fun r s => sm_run (sm_ZZ X) sm_PP w C mn n (pc + 3) L r s) = some r := h
  have fin : ∀ (u : sm_V) (x : Nat) (S' : List sm_V) (σ' : sm_S), S = u :: vP (t, x) :: S' → σ'.2.2.2 = σ.2.2.2 → (∀ t' i' k', ¬ (t' = t ∧ i' = x) → σ'.1 t' i' k' = σ.1 t' i' k' ∧ σ'.2.1 t' i' k' = σ.2.1 t' i' k' ∧ σ'.2.2.1 t' i' k' = σ.2.2.1 t' i' k') → (∀ k, sm_okp (sm_cnt σ) (σ'.2.2.1 t x k)) → (∀ j, j ≠ k → σ'.1 t x j = σ.1 t x j ∧ σ'.2.1 t x j = σ.2.1 t x j ∧ σ'.2.2.1 t x j = σ.2.2.1 t x j) → sm_gf w t k kd x σ' = u → narrow (sm_cty t k) (sm_rv E (sm_ad σ) u) = sm_rv E (sm_ad σ) u → fits (sm_cty t k) (sm_rv E (sm_ad σ) u) = true → sm_run (sm_ZZ X) sm_PP w C mn n (pc + 3) L S' σ' = some r → W p l e R s m args below meth c H locs (sm_cells σ - c0) (sm_slots σ - s0) Q (F0 m pc ls (sm_st E σ S)) := by
    intro u x S' σ' hSe he hm hokp hmj hgf hn hfit hrun
    subst hSe
    have hxo : sm_okp (sm_cnt σ) (t, x) := hS (vP (t, x)) (List.mem_cons_of_mem _ List.mem_cons_self)
    have hi := sm_okp_big h10 hxo
    obtain ⟨hS', est, ec, es⟩ := sm_LRs (E := E) he hS.tail.tail
    show W p l e R s m args below meth c H locs _ _ Q (F0 m pc ls (sm_rv E (sm_ad σ) u :: va_rf (sm_rp E (sm_ad σ) (t, x)) :: sm_st E σ S'))
    rw [sm_rp_big h10]
    refine sm_put cx hd hH hl h10 h24 hkd hi hlink hn hfit he hm hokp (sm_fv_up hkd he hmj (by rw [hgf])) fun H' locs' hH' hl' => ?_
    have g := K _ _ _ _ _ _ _ hrun hH' (hL.same he) hS' hl' (by rw [ec]; exact hc) (by rw [es]; exact hs)
    rw [ec, es, est] at g
    exact g
  rcases S with _ | ⟨u, _ | ⟨v, S⟩⟩
  · rcases kd with _ | _ | _ | _ | _ | _ | _ | _ | _ | _ | kd <;> first | cases h | (cases w <;> cases h)
  · rcases u with x | x | x | x <;> rcases kd with _ | _ | _ | _ | _ | _ | _ | _ | _ | _ | kd <;> first | cases h | (cases w <;> cases h)
  · have h6 := hH.2.2.2.2.2.1
    have refs : ∀ (x y : Nat × Nat) (_ : u = vP x) (_ : v = vP y) (_ : kd = 2 ∨ 10 ≤ kd) (_ : ∀ z σ', sm_gf w t k kd z σ' = vP (σ'.2.2.1 t z k)) (_ : sm_rq y t (fun i => sm_run (sm_ZZ X) sm_PP w C mn n (pc + 3) L S (sR σ t i k x)) = some r), W p l e R s m args below meth c H locs (sm_cells σ - c0) (sm_slots σ - s0) Q (F0 m pc ls (sm_st E σ (u :: v :: S))) := by
      intro x y hu hv hk hg hrq
      subst hu; subst hv
      obtain ⟨y1, y2⟩ := y
      obtain ⟨hz, hrn⟩ := sm_rq_s hrq
      dsimp only at hz hrn
      subst hz
      have hxo : sm_okp (sm_cnt σ) x := hS (vP x) List.mem_cons_self
      obtain ⟨n1, n2⟩ := sm_tyk_ref hty hk (sm_rp E (sm_ad σ) x)
      refine fin (vP x) y2 S (sR σ y1 y2 k x) rfl rfl (fun t' i' k' hne => ⟨rfl, rfl, sm_up3_ne hne⟩) (fun k' => ?_) (fun j hj => ⟨rfl, rfl, sm_up3_nk hj⟩) ?_ n1 n2 hrn
      · show sm_okp _ (sm_up3 σ.2.2.1 y1 y2 k x y1 y2 k')
        rw [sm_up3_k]
        split
        · exact hxo
        · exact h6 _ _ _
      · rw [hg]
        show vP (sm_up3 σ.2.2.1 y1 y2 k x y1 y2 k) = vP x
        rw [sm_up3_self]
    have wires : ∀ (z : Nat), kd = z + 10 → w = false → ∀ z σ', sm_gf w t k kd z σ' = vP (σ'.2.2.1 t z k) := by
      intro z hz hw z' σ'
      subst hz; subst hw
      rfl
    rcases u with x | x | x | x <;> rcases v with y | y | y | y
    case inl.inr.inr.inl =>
      obtain ⟨y1, y2⟩ := y
      match kd, h, hty, fin with
      | 0, h, hty, fin =>
        have hty := sm_tyk_I hty
        obtain ⟨hz, h⟩ := sm_rq_s (k := fun i => sm_run (sm_ZZ X) sm_PP w C mn n (pc + 3) L S (sI σ t i k x)) h
        dsimp only at hz h
        subst hz
        exact fin (vI x) y2 S (sI σ y1 y2 k x) rfl rfl (fun t' i' k' hne => ⟨sm_up3_ne hne, rfl, rfl⟩) (fun k' => h6 _ _ _) (fun j hj => ⟨sm_up3_nk hj, rfl, rfl⟩) (congrArg vI sm_up3_self) (by rw [hty]; rfl) (by rw [hty]; rfl) h
      | 3, h, hty, fin =>
        have hty := sm_tyk_Z hty
        have h : (if x = 0 ∨ x = 1 then sm_rq (y1, y2) t (fun i => sm_run (sm_ZZ X) sm_PP w C mn n (pc + 3) L S (sI σ t i k x)) else none) = some r := h
        by_cases hb1 : x = 0 ∨ x = 1
        · rw [if_pos hb1] at h
          obtain ⟨hz, h⟩ := sm_rq_s h
          dsimp only at hz h
          subst hz
          refine fin (vI x) y2 S (sI σ y1 y2 k x) rfl rfl (fun t' i' k' hne => ⟨sm_up3_ne hne, rfl, rfl⟩) (fun k' => h6 _ _ _) (fun j hj => ⟨sm_up3_nk hj, rfl, rfl⟩) (congrArg vI sm_up3_self) ?_ ?_ h
          · rw [hty]; rcases hb1 with rfl | rfl <;> rfl
          · rw [hty]; rcases hb1 with rfl | rfl <;> rfl
        · rw [if_neg hb1] at h; cases h
      | 1, h, hty, fin => cases h
      | 2, h, hty, fin => cases h
      | 9, h, hty, fin => cases h
      | kd + 10, h, hty, fin => cases w <;> cases h
      | 4, h, hty, fin => exact (sm_tyk_no hty (by omega) (by omega)).elim
      | 5, h, hty, fin => exact (sm_tyk_no hty (by omega) (by omega)).elim
      | 6, h, hty, fin => exact (sm_tyk_no hty (by omega) (by omega)).elim
      | 7, h, hty, fin => exact (sm_tyk_no hty (by omega) (by omega)).elim
      | 8, h, hty, fin => exact (sm_tyk_no hty (by omega) (by omega)).elim
    case inr.inl.inr.inr.inl =>
      obtain ⟨y1, y2⟩ := y
      match kd, h, hty, fin with
      | 1, h, hty, fin =>
        have hty := sm_tyk_J hty
        obtain ⟨hz, h⟩ := sm_rq_s (k := fun i => sm_run (sm_ZZ X) sm_PP w C mn n (pc + 3) L S (sL σ t i k x)) h
        dsimp only at hz h
        subst hz
        exact fin (vL x) y2 S (sL σ y1 y2 k x) rfl rfl (fun t' i' k' hne => ⟨rfl, sm_up3_ne hne, rfl⟩) (fun k' => h6 _ _ _) (fun j hj => ⟨rfl, sm_up3_nk hj, rfl⟩) (congrArg vL sm_up3_self) (by rw [hty]; rfl) (by rw [hty]; rfl) h
      | 0, h, hty, fin => cases h
      | 2, h, hty, fin => cases h
      | 3, h, hty, fin => cases h
      | 9, h, hty, fin => cases h
      | kd + 10, h, hty, fin => cases w <;> cases h
      | 4, h, hty, fin => exact (sm_tyk_no hty (by omega) (by omega)).elim
      | 5, h, hty, fin => exact (sm_tyk_no hty (by omega) (by omega)).elim
      | 6, h, hty, fin => exact (sm_tyk_no hty (by omega) (by omega)).elim
      | 7, h, hty, fin => exact (sm_tyk_no hty (by omega) (by omega)).elim
      | 8, h, hty, fin => exact (sm_tyk_no hty (by omega) (by omega)).elim
    case inr.inr.inl.inr.inr.inl =>
      match kd, h, hty, refs, wires with
      | 2, h, hty, refs, _ => exact refs x y rfl rfl (Or.inl rfl) (fun _ _ => rfl) h
      | 0, h, hty, refs, _ => cases h
      | 1, h, hty, refs, _ => cases h
      | 3, h, hty, refs, _ => cases h
      | 9, h, hty, refs, _ => cases h
      | kd + 10, h, hty, refs, wires =>
        cases w with
        | true => cases h
        | false => exact refs x y rfl rfl (Or.inr (by omega)) (wires kd rfl rfl) h
      | 4, h, hty, refs, _ => exact (sm_tyk_no hty (by omega) (by omega)).elim
      | 5, h, hty, refs, _ => exact (sm_tyk_no hty (by omega) (by omega)).elim
      | 6, h, hty, refs, _ => exact (sm_tyk_no hty (by omega) (by omega)).elim
      | 7, h, hty, refs, _ => exact (sm_tyk_no hty (by omega) (by omega)).elim
      | 8, h, hty, refs, _ => exact (sm_tyk_no hty (by omega) (by omega)).elim
    all_goals (rcases kd with _ | _ | _ | _ | _ | _ | _ | _ | _ | _ | kd <;> first | cases h | (cases w <;> cases h))
end
