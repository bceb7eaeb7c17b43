section
variable {E : sm_G} {X : Nat × (Nat → Int32)} {w : Bool} {p : Program} {l : Launch} {e : Env} {R : Room} {s : State} {m : MethodId} {args : Array Value} {below : List Frame} {meth : Method} {c : Code} {mn : Nat} {C : sm_C} {r : sm_O × sm_S} {c0 s0 : Nat} {Q : State → Prop} {n : Nat}
variable {len : Nat} {a : Nat × Nat × Nat × Nat} {pc : Nat} {L S : List sm_V} {σ : sm_S} {hx : sm_S → sm_R} {H : Heap} {locs : List Loc} {ls : Array Slot}
/-- constants -/
theorem sm_s_ldc (cx : sm_Cx E X p s m args meth c mn) (K : sm_K E X w p l e R s m args below meth c mn C r c0 s0 Q n) {i : Nat} (hd : decode (sm_bc mn) pc = .ok (.ldc i, 2)) (hok : sm_okA mn (.ldc i) a pc = true)
    (h : sm_I (sm_ZZ X) w C (.ldc i) a pc (sm_run (sm_ZZ X) sm_PP w C mn n (pc + 2)) (sm_run (sm_ZZ X) sm_PP w C mn n) hx L S σ = some r) (hH : sm_HR E w σ H) (hL : sm_LR E σ (sm_nl mn) L ls) (hS : sm_SR σ S) (hl : ∀ q ∈ locs, E.1 ≤ q.base) (hc : c0 ≤ sm_cells σ) (hs : s0 ≤ sm_slots σ) :
    W p l e R s m args below meth c H locs (sm_cells σ - c0) (sm_slots σ - s0) Q (F0 m pc ls (sm_st E σ S)) := by
  obtain ⟨hex, hb, hml, hown, hts, hEF, -⟩ := cx
  obtain ⟨a1, a2, a3, a4⟩ := a
  cases a1 with
  | zero => exact lv_ldc hex hb hown (hts _ (sm_il_w hok)) hd (K _ _ _ _ _ _ _ h hH hL (hS.cons trivial) hl hc hs)
  | succ k =>
    have hok' : (sm_has4 sm_sl (sm_ow mn) i a2 && decide (a2 < 54)) = true := hok
    rw [Bool.and_eq_true] at hok'
    obtain ⟨q, hq, e1, e2, e3⟩ := sm_has4_s hok'.1
    obtain ⟨tx, hR⟩ := hEF.2.2.2.1 q hq
    rw [e1, e2, e3] at hR
    exact va_ldcS hex hb hown hR hd (K _ _ _ _ _ _ _ h hH hL (hS.cons (v := vP (5, a2)) (Or.inr (Or.inr (Or.inl ⟨rfl, of_decide_eq_true hok'.2⟩)))) hl hc hs)
theorem sm_s_ldcw (cx : sm_Cx E X p s m args meth c mn) (K : sm_K E X w p l e R s m args below meth c mn C r c0 s0 Q n) {i : Nat} (hd : decode (sm_bc mn) pc = .ok (.ldc_w i, 3)) (hok : sm_okA mn (.ldc_w i) a pc = true)
    (h : sm_I (sm_ZZ X) w C (.ldc_w i) a pc (sm_run (sm_ZZ X) sm_PP w C mn n (pc + 3)) (sm_run (sm_ZZ X) sm_PP w C mn n) hx L S σ = some r) (hH : sm_HR E w σ H) (hL : sm_LR E σ (sm_nl mn) L ls) (hS : sm_SR σ S) (hl : ∀ q ∈ locs, E.1 ≤ q.base) (hc : c0 ≤ sm_cells σ) (hs : s0 ≤ sm_slots σ) :
    W p l e R s m args below meth c H locs (sm_cells σ - c0) (sm_slots σ - s0) Q (F0 m pc ls (sm_st E σ S)) := by
  obtain ⟨hex, hb, hml, hown, hts, hEF, -⟩ := cx
  obtain ⟨a1, a2, a3, a4⟩ := a
  cases a1 with
  | zero => exact lv_ldcw hex hb hown (hts _ (sm_il_w hok)) hd (K _ _ _ _ _ _ _ h hH hL (hS.cons trivial) hl hc hs)
  | succ k =>
    have hok' : (sm_has4 sm_sl (sm_ow mn) i a2 && decide (a2 < 54)) = true := hok
    rw [Bool.and_eq_true] at hok'
    obtain ⟨q, hq, e1, e2, e3⟩ := sm_has4_s hok'.1
    obtain ⟨tx, hR⟩ := hEF.2.2.2.1 q hq
    rw [e1, e2, e3] at hR
    exact sm_ldcwS hex hb hown hR hd (K _ _ _ _ _ _ _ h hH hL (hS.cons (v := vP (5, a2)) (Or.inr (Or.inr (Or.inl ⟨rfl, of_decide_eq_true hok'.2⟩)))) hl hc hs)
theorem sm_s_ldc2 (cx : sm_Cx E X p s m args meth c mn) (K : sm_K E X w p l e R s m args below meth c mn C r c0 s0 Q n) {i : Nat} (hd : decode (sm_bc mn) pc = .ok (.ldc2_w i, 3)) (hok : sm_okA mn (.ldc2_w i) a pc = true)
    (h : sm_I (sm_ZZ X) w C (.ldc2_w i) a pc (sm_run (sm_ZZ X) sm_PP w C mn n (pc + 3)) (sm_run (sm_ZZ X) sm_PP w C mn n) hx L S σ = some r) (hH : sm_HR E w σ H) (hL : sm_LR E σ (sm_nl mn) L ls) (hS : sm_SR σ S) (hl : ∀ q ∈ locs, E.1 ≤ q.base) (hc : c0 ≤ sm_cells σ) (hs : s0 ≤ sm_slots σ) :
    W p l e R s m args below meth c H locs (sm_cells σ - c0) (sm_slots σ - s0) Q (F0 m pc ls (sm_st E σ S)) := by
  obtain ⟨hex, hb, hml, hown, hts, hEF, -⟩ := cx
  exact lv_ldc2 hex hb hown (hts _ (sm_ll_w hok)) hd (K _ _ _ _ _ _ _ h hH hL (hS.cons trivial) hl hc hs)
/-- a static that was there from the start -/
theorem sm_getsZ {cc : ByteArray} {rest : List Value} {cells slots : Nat} (hexec : p.tables.exec = Jvm.exec) (hb : c.code = cc) {C n d own : String} {v : Value} {index : Nat} (hZ : va_Z C n d v (fun q => E.1 ≤ q) s E.2.2.2.2.2.2.2.2) (hlow : ∀ q, q < E.1 → H[q]? = E.2.2.2.2.2.2.2.2[q]?) (hown : s.vm.findClass own = some m.cls) (hlink : (Cond.fieldLink own index C n d).before args s = true) (hdg : decode cc pc = .ok (.getstatic index, 3))
    (kk : W p l e R s m args below meth c H locs cells slots Q (F0 m (pc + 3) ls (v :: rest))) : W p l e R s m args below meth c H locs cells slots Q (F0 m pc ls rest) := by
  obtain ⟨cf, kf, fi, f, a, cell, h1, h2, h3, h4, h5, h6, h7, h8⟩ := hZ
  exact W.gets hexec hb hown hlink h1 h2 h3 h4 (by rw [hlow a (Nat.not_le.mp h8)]; exact h5) (fun e => by rw [e] at h6; cases h6) h7 rfl hdg kk
def sm_tlw (q : Nat × Nat × Nat × Nat × Nat) : Cond := match q.2.2.1 with
  | 0 => .fieldLink (sm_cn q.1) q.2.1 "java/lang/String" "COMPACT_STRINGS" "Z"
  | 1 => .fieldLink (sm_cn q.1) q.2.1 (sm_sc q.2.2.2.1).1 (sm_sc q.2.2.2.1).2 "[I"
  | _ => .fieldLink (sm_cn q.1) q.2.1 "jdk/internal/util/Preconditions" "SIOOBE_FORMATTER" "Ljava/util/function/BiFunction;"
theorem sm_tl_in : sm_tl.all (fun q => decide (lw_tbl[q.2.2.2.2]? = some (sm_tlw q)) && (bif q.2.2.1 == 0 then q.2.2.2.1 == 1 else decide (q.2.2.2.1 < 6))) = true := by decide +kernel
theorem sm_s_gets (cx : sm_Cx E X p s m args meth c mn) (K : sm_K E X w p l e R s m args below meth c mn C r c0 s0 Q n) {i : Nat} (hd : decode (sm_bc mn) pc = .ok (.getstatic i, 3)) (hok : sm_okA mn (.getstatic i) a pc = true)
    (h : sm_I (sm_ZZ X) w C (.getstatic i) a pc (sm_run (sm_ZZ X) sm_PP w C mn n (pc + 3)) (sm_run (sm_ZZ X) sm_PP w C mn n) hx L S σ = some r) (hH : sm_HR E w σ H) (hL : sm_LR E σ (sm_nl mn) L ls) (hS : sm_SR σ S) (hl : ∀ q ∈ locs, E.1 ≤ q.base) (hc : c0 ≤ sm_cells σ) (hs : s0 ≤ sm_slots σ) :
    W p l e R s m args below meth c H locs (sm_cells σ - c0) (sm_slots σ - s0) Q (F0 m pc ls (sm_st E σ S)) := by
  obtain ⟨hex, hb, hml, hown, hts, hEF, -⟩ := cx
  obtain ⟨q, hq, e1, e2, e3, e4⟩ := sm_has5_s (show sm_has5 sm_tl (sm_ow mn) i a.1 a.2.1 = true from hok)
  have h0 := List.all_eq_true.mp sm_tl_in q hq
  rw [Bool.and_eq_true] at h0
  have hw : sm_tlw q ∈ sm_wd := sm_wrd (of_decide_eq_true h0.1) (by unfold sm_tlw; split <;> rfl)
  have hlink := hts _ hw
  obtain ⟨q1, q2, q3, q4, q5⟩ := q
  dsimp only at e1 e2 e3 e4 h0
  subst e1; subst e2
  obtain ⟨a1, a2, a3, a4⟩ := a
  dsimp only at e3 e4
  subst e3; subst e4
  match q3, h0, hlink, h with
  | 0, h0, hlink, h =>
    have h1 : q4 = 1 := by simpa using h0.2
    subst h1
    exact sm_getsZ hex hb hEF.2.2.2.2.2.1 hH.2.1 hown hlink hd (K _ _ _ _ _ _ _ h hH hL (hS.cons trivial) hl hc hs)
  | 1, h0, hlink, h =>
    have h1 : q4 < 6 := of_decide_eq_true h0.2
    exact sm_getsZ hex hb (hEF.2.2.2.2.1 q4 h1).1 hH.2.1 hown hlink hd (K _ _ _ _ _ _ _ h hH hL (hS.cons (v := vP (6, q4)) (Or.inr (Or.inr (Or.inr (Or.inl ⟨rfl, h1⟩))))) hl hc hs)
  | k + 2, h0, hlink, h =>
    exact sm_getsZ hex hb hEF.2.2.2.2.2.2.1 hH.2.1 hown hlink hd (K _ _ _ _ _ _ _ h hH hL (hS.cons (v := vU) trivial) hl hc hs)
/-- a reference that a cell of ours is -/
theorem sm_rp_big {ad : Nat → Nat → Nat} {t i : Nat} (h : 10 ≤ t) : sm_rp E ad (t, i) = some (E.1 + ad t i) := by
  unfold sm_rp
  rw [if_neg (by show ¬ t = 0; omega), if_neg (by show ¬ t = 4; omega), if_neg (by show ¬ t = 5; omega), if_neg (by show ¬ t = 6; omega), if_neg (by show ¬ t = 7; omega)]
theorem sm_okp_big {cnt : Nat → Nat} {t i : Nat} (h : 10 ≤ t) (k : sm_okp cnt (t, i)) : i < cnt t := by
  rcases k with q | q | q | q | q | q
  · have := congrArg Prod.fst q; dsimp only at this; omega
  · dsimp only at q; omega
  · dsimp only at q; omega
  · dsimp only at q; omega
  · dsimp only at q; omega
  · exact q.2
theorem sm_okp_5 {cnt : Nat → Nat} {t i : Nat} (h : t = 5 ∨ t = 7) (k : sm_okp cnt (t, i)) : i < 54 := by
  rcases k with q | q | q | q | q | q
  · have := congrArg Prod.fst q; dsimp only at this; omega
  all_goals dsimp only at q; omega
theorem sm_okp_6 {cnt : Nat → Nat} {i : Nat} (k : sm_okp cnt (6, i)) : i < 6 := by
  rcases k with q | q | q | q | q | q
  · have := congrArg Prod.fst q; dsimp only at this; omega
  all_goals dsimp only at q; omega
theorem sm_HR.obj (hH : sm_HR E w σ H) {t i : Nat} (h1 : 10 ≤ t) (h2 : t < 24) (hi : i < sm_cnt σ t) : t_OB (E.1 + sm_ad σ t i) (E.2.2.2.2.2.2.1.1 (t - 10)) (sm_fk t).length (E.2.2.2.2.2.2.1.2 (t - 10)) H (sm_fv E w σ t i) := by
  rcases (hH.2.2.1 t i h1 hi).2 with q | q | q
  · exact q.2
  · omega
  · omega
theorem sm_HR.row (hH : sm_HR E w σ H) {t i : Nat} (h1 : 30 ≤ t) (hi : i < sm_cnt σ t) : t < 97 ∧ H[E.1 + sm_ad σ t i]? = some (arrV (E.2.2.2.2.2.2.2.1 t) (sm_al σ t i) (sm_av E σ t i)) := by
  rcases (hH.2.2.1 t i (by omega) hi).2 with q | q | q
  · omega
  · omega
  · exact q.2
theorem sm_rq_s {q : Nat × Nat} {t : Nat} {k : Nat → sm_R} {r : sm_O × sm_S} (h : sm_rq q t k = some r) : q.1 = t ∧ k q.2 = some r := by
  unfold sm_rq at h
  split at h
  · exact ⟨by assumption, h⟩
  · cases h
theorem sm_ix_s {x : Int32} {n : Nat} {k : Nat → sm_R} {r : sm_O × sm_S} (h : sm_ix x n k = some r) : ¬ (x < 0 ∨ n ≤ x.toNatClampNeg) ∧ k x.toNatClampNeg = some r := by
  unfold sm_ix at h
  split at h
  · cases h
  · exact ⟨by assumption, h⟩
set_option maxHeartbeats 1000000 in
theorem sm_s_getf (cx : sm_Cx E X p s m args meth c mn) (K : sm_K E X w p l e R s m args below meth c mn C r c0 s0 Q n) {i : Nat} (hd : decode (sm_bc mn) pc = .ok (.getfield i, 3)) (hok : sm_okA mn (.getfield i) a pc = true)
    (h : sm_I (sm_ZZ X) w C (.getfield i) a pc (sm_run (sm_ZZ X) sm_PP w C mn n (pc + 3)) (sm_run (sm_ZZ X) sm_PP w C mn n) hx L S σ = some r) (hH : sm_HR E w σ H) (hL : sm_LR E σ (sm_nl mn) L ls) (hS : sm_SR σ S) (hl : ∀ q ∈ locs, E.1 ≤ q.base) (hc : c0 ≤ sm_cells σ) (hs : s0 ≤ sm_slots σ) :
    W p l e R s m args below meth c H locs (sm_cells σ - c0) (sm_slots σ - s0) Q (F0 m pc ls (sm_st E σ S)) := by
  obtain ⟨hex, hb, hml, hown, hts, hEF, -⟩ := cx
  obtain ⟨t, k, kd, a4⟩ := a
  rcases sm_r1_s S with q | ⟨x, S, rfl⟩
  · exact absurd h (by rw [show sm_I (sm_ZZ X) w C (.getfield i) (t, k, kd, a4) pc _ _ hx L S σ = none from q _]; exact fun z => by cases z)
  obtain ⟨x1, x2⟩ := x
  obtain ⟨hz, h⟩ := sm_rq_s (k := fun i => sm_run (sm_ZZ X) sm_PP w C mn n (pc + 3) L (sm_gf w t k kd i σ :: S) σ) h
  dsimp only at hz h
  subst hz
  have hxo : sm_okp (sm_cnt σ) (x1, x2) := hS (vP (x1, x2)) List.mem_cons_self
  have obj : 10 ≤ x1 → x1 < 24 → (sm_fk x1)[k]? = some kd → ((Cond.fieldLink (sm_cn (sm_ow mn)) i (sm_cR x1) (sm_cT x1 k).2.1 (sm_cT x1 k).2.2.1).before args s = true ∨ (Cond.fieldLinkNest (sm_cn (sm_ow mn)) i (sm_cR x1) (sm_cT x1 k).2.1 (sm_cT x1 k).2.2.1 "FreightYardsModel").before args s = true) → W p l e R s m args below meth c H locs (sm_cells σ - c0) (sm_slots σ - s0) Q (F0 m pc ls (sm_st E σ (vP (x1, x2) :: S))) := by
    intro h10 h24 hkd hlink
    have hkl : k < (sm_fk x1).length := (List.getElem?_eq_some_iff.mp hkd).1
    have hi := sm_okp_big h10 hxo
    obtain ⟨cell, q1, q2, q3, q4⟩ := hH.obj h10 h24 hi
    obtain ⟨hSl, hfc, kC, hkC, hkind⟩ := hEF.1 x1 h10 h24
    obtain ⟨cf, kf, fi, f, hfi, hsl⟩ := hSl k hkl
    have hst := (u_facts hfc hkC (u_lays hts (sm_uw x1 h10 h24) hkl) hfi).1
    have hg := K _ _ _ _ _ _ _ h hH hL (hS.tail.cons (sm_gf_ok hH h10 h24 hi hkd)) hl hc hs
    have hv : cell.slots[f.slot]? = some (sm_rv E (sm_ad σ) (sm_gf w x1 k kd x2 σ)) := by
      rw [hsl, q4 k hkl]
      unfold sm_fv
      rw [List.getD_eq_getElem?_getD, hkd]
      rfl
    show W p l e R s m args below meth c H locs _ _ Q (F0 m pc ls (va_rf (sm_rp E (sm_ad σ) (x1, x2)) :: sm_st E σ S))
    rw [sm_rp_big h10]
    rw [sm_cdecl x1 h10 h24 k hkl] at hfi
    rcases hlink with hlink | hlink
    · exact W.getf hex hb hown hlink hfi hst q1 (by rw [q3]; exact fun z => by cases z) hv rfl rfl hd hg
    · exact va_Wgetf hex hb hown hlink hfi hst q1 (by rw [q3]; exact fun z => by cases z) hv rfl rfl hd hg
  have hok' : ((sm_has5 sm_fl (sm_ow mn) i x1 k && ((x1 == 5 && ((k == 0 && kd == 7) || (k == 1 && kd == 9))) || (decide (10 ≤ x1) && (decide (x1 < 24) && (sm_fk x1)[k]? == some kd)))) || (sm_has5 sm_fn (sm_ow mn) i x1 k && (decide (10 ≤ x1) && (decide (x1 < 24) && (sm_fk x1)[k]? == some kd)))) = true := hok
  simp only [Bool.or_eq_true, Bool.and_eq_true, beq_iff_eq, decide_eq_true_eq] at hok'
  rcases hok' with ⟨g1, g2⟩ | ⟨g1, g2, g3, g4⟩
  · have hw := hts _ (sm_fl_w g1)
    rcases g2 with ⟨rfl, g2⟩ | ⟨g2, g3, g4⟩
    · have hi := sm_okp_5 (Or.inl rfl) hxo
      obtain ⟨-, hco, hva, -⟩ := hEF.2.2.1.1 x2 hi
      have hrp : sm_rp E (sm_ad σ) (5, x2) = some (E.2.2.1 x2) := rfl
      rcases g2 with ⟨rfl, rfl⟩ | ⟨rfl, rfl⟩
      · obtain ⟨cf, kf, fi, f, cell, u1, u2, u3, u4, u5, u6⟩ := hva
        have hg := K _ _ _ _ _ _ _ h hH hL (hS.tail.cons (v := vP (7, x2)) (Or.inr (Or.inr (Or.inr (Or.inr (Or.inl ⟨rfl, hi⟩)))))) hl hc hs
        exact W.getf hex hb hown hw u1 u2 (by rw [hH.2.1 _ (Nat.not_le.mp u6)]; exact u3) u4 u5 rfl rfl hd hg
      · obtain ⟨cf, kf, fi, f, cell, u1, u2, u3, u4, u5, u6⟩ := hco
        have hg := K _ _ _ _ _ _ _ h hH hL (hS.tail.cons (v := vI 0) trivial) hl hc hs
        exact W.getf hex hb hown hw u1 u2 (by rw [hH.2.1 _ (Nat.not_le.mp u6)]; exact u3) u4 u5 rfl rfl hd hg
    · refine obj g2 g3 g4 (Or.inl ?_)
      have hw : (sm_flw (sm_ow mn, i, x1, k, 0)).before args s = true := hw
      unfold sm_flw at hw
      dsimp only at hw
      rw [show (x1 == 5) = false by simp; omega] at hw
      exact hw
  · refine obj g2 g3 g4 (Or.inr ?_)
    obtain ⟨q, hq, e1, e2, e3, e4⟩ := sm_has5_s g1
    have := hEF.2.2.2.2.2.2.2.1 q hq
    unfold sm_fnw at this
    rw [e1, e2, e3, e4] at this
    exact va_Nw.use rfl this
end
