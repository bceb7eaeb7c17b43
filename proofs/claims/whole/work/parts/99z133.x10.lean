section
/-! STATEMENTS ARE WELL-TYPED -/
variable {T : zT} {N : Nat} {a b c a0 : zA} {blk : zA → zR} {t u y : Int32} {P : List Nat}
def KW (a : zA) : Prop := (a_k a).Pairwise (fun x y => x.2.2 < y.2.2)
def CTL (a : zA) : Prop := (a_c a).length = pos vT (a_i a) (zL a)
/-- what holds at a statement -/
def HSt (a : zA) : Prop := QB a ∧ a_t a = [] ∧ KW a ∧ CTL a ∧ In0 tyOk a ∧ a_p a ≤ 800
def SGr (a b : zA) : Prop := (∀ P, (∀ k ∈ P, k < zL a) → WTa P a → WTa P b ∧ LM a b) ∧ a_t b = [] ∧ KW b ∧ CTL b
theorem pos_f {v : Nat → Bool} {l : List zI} : pos v l l.length = (l.filter (fun e => v e.1)).length := by unfold pos; rw [List.take_length]
theorem CTL_app {L : List zI} (h : CTL a) (hi : a_i b = a_i a ++ L) (hL : ∀ e ∈ L, e.1 ≠ 33) (hc : a_c b = a_c a) : CTL b := by
  unfold CTL zL at *
  rw [hc, h, hi, pos_f, pos_f, List.filter_append, List.length_append]
  have : L.filter (fun e => vT e.1) = [] := by
    rw [List.filter_eq_nil_iff]
    intro e he
    have := hL e he
    unfold vT
    simpa using this
  rw [this]; rfl
theorem CTL_x (h : CTL a) (hx : XG a b) (hc : a_c b = a_c a) : CTL b := by
  obtain ⟨-, ⟨L, h1, h2⟩, -⟩ := hx
  exact CTL_app h h1 (fun e he => by have := (h2 e he).2; omega) hc
theorem KB_s (hi : In0 tyOk a) : ∀ x ∈ (gNow a).2.1, x.1 < 24 := by
  intro x hx
  obtain ⟨e, he, rfl⟩ := List.mem_map.mp hx
  have := hi.2.2.2.2.1 e he
  have := hi.2.2.2.1
  show e.2.2 < 24
  omega
theorem QB_k (hq : (∀ q ∈ a_q a, q.2.2.1.length ≤ 4) ∧ (a_q a).length ≤ 12) (hi : In0 tyOk a) : QB a := ⟨hq.1, hq.2, fun x hx => by have := hi.2.2.2.2.1 x hx; have := hi.2.2.2.1; omega⟩
theorem gSet_m {s : Nat} {t : Int32} {K : List (Nat × Int32)} {x : Nat × Int32} (h : x = (s, t) ∨ (x.1 ≠ s ∧ x ∈ K)) : x ∈ gSet s t K := by
  unfold gSet
  rcases h with h | ⟨h1, h2⟩
  · rw [h]; exact List.mem_cons_self
  · exact List.mem_cons_of_mem _ (List.mem_filter.mpr ⟨h2, by simpa using h1⟩)
theorem G_var (hT : TK T N) (hs : HSt a) (ho : a_o a = 0) (h : zVar T a = .inr (y, b)) : SGr a b := by
  obtain ⟨hq, ht, hk, hc, hi, hp⟩ := hs
  unfold zVar at h
  rw [pb_inr] at h
  obtain ⟨_, a1, h1, h⟩ := h
  have d1 := Dst_N hp h1
  obtain ⟨-, e1⟩ := zN_inr.mp h1
  cases e1
  rw [pb_inr] at h
  obtain ⟨t1, a2, h2, h⟩ := h
  obtain ⟨d2, p2, e2⟩ := D_ty d1.2.1 h2
  rw [pb_inr] at h
  obtain ⟨sl, a3, h3, h⟩ := h
  obtain ⟨-, -, m3, n3, e3⟩ := zNewN_inr h3
  cases e3
  have d4 := Dst_N d2.2.1 (zN_inr.mpr ⟨n3, rfl⟩ : zN a2 = .inr (0, aP a2 (a_p a2 + 1)))
  rw [pb_inr] at h
  obtain ⟨_, a5, h5, h⟩ := h
  have d5 := Dst_must (a := aX (aP a2 (a_p a2 + 1)) (some (T.2.1 (a_p a2), t1))) d4.2.1 h5
  obtain ⟨-, -, e5⟩ := zMust_inr.mp h5
  cases e5
  subst e2
  rw [pb_inr] at h
  obtain ⟨u, a6, h6, h⟩ := h
  obtain ⟨x6, w6⟩ := D_Exp d5.2.1 h6
  obtain ⟨g6, g6t, g6l, g6o, -⟩ := SubG_u (G_X hT 11) h6 hq (by show (a_t a).length ≤ _; rw [ht]; exact Nat.zero_le _) (by show a_o a ≤ 10; omega)
  have g6 : XG a a6 := g6
  have g6t : a_t a6 = [u] := by rw [← ht]; exact g6t
  have m6 : a_m a6 = a_m a := x6.1.2.1
  have c6 : a_c a6 = a_c a := x6.1.2.2.2.2.2.2.1
  have m3 : a_m a ≠ 24 := m3
  have m24 : a_m a < 24 := by have := hi.2.2.2.1; omega
  rw [it_l, it_l, pb_inr] at h
  obtain ⟨-, cf, _, a7, h7, h⟩ := h
  obtain ⟨-, e7⟩ := zN_inr.mp h7
  cases e7
  obtain ⟨nm, pl, hb⟩ : ∃ nm pl, b = zKnow nm t1 (zE (aP a6 (a_p a6 + 1)) 6 (Int32.ofNat (a_m a)) 0 t1 pl) := ⟨_, _, (congrArg Prod.snd (Sum.inr.inj h)).symm⟩
  subst hb
  clear h h7 h6 x6 h5 d5 h3 d4 h2 d2 h1 d1
  have k6 : a_k a6 = a_k a := g6.2.2.2.1
  have hlt : ∀ x ∈ (gNow a6).2.1, x.1 < a_m a := by
    intro x hx
    obtain ⟨e, he, rfl⟩ := List.mem_map.mp hx
    rw [k6] at he
    exact hi.2.2.2.2.1 e he
  have hK : (gNow (zKnow nm t1 (zE (aP a6 (a_p a6 + 1)) 6 (Int32.ofNat (a_m a)) 0 t1 pl))).2.1 = (gNow a6).2.1 ++ [(a_m a, t1)] := by
    show (a_k a6 ++ [(nm, t1, a_m a6)]).map _ = _
    rw [List.map_append, m6]; rfl
  refine ⟨fun P hP w => ?_, ?_, ?_, ?_⟩
  · have w6 := g6.1 P w
    refine ⟨WTa_app (a := aP a6 (a_p a6 + 1)) (op := 6) (arg := Int32.ofNat (a_m a)) (ty := t1) w6 rfl rfl rfl (by show (a_t a6).length ≤ 80; rw [g6t]; exact Nat.le_of_ble_eq_true rfl) (by decide) (by decide) ⟨⟨u, [], g6t, cf⟩, a_m a, m24, rfl⟩ (fun _ => ⟨?_, fun x hx => ?_, rfl, rfl⟩) ?_ (fun x hx => ?_), ?_⟩
    · rfl
    · have hx : x ∈ (gNow (zKnow nm t1 (zE (aP a6 (a_p a6 + 1)) 6 (Int32.ofNat (a_m a)) 0 t1 pl))).2.1 := hx
      rw [hK] at hx
      show x ∈ gSet (Int32.ofNat (a_m a)).toNatClampNeg t1 (gNow a6).2.1
      rw [i_tn (by omega)]
      refine gSet_m ?_
      rcases List.mem_append.mp hx with z | z
      · exact Or.inr ⟨by have := hlt x z; omega, z⟩
      · exact Or.inl (List.mem_singleton.mp z)
    · refine hOk_w (g := gNow a6) (hOk_pre w6.2.1 (List.prefix_append _ _)) (fun x hx => ?_) rfl rfl
      rw [hK]; exact List.mem_append_left _ hx
    · rw [hK] at hx
      rcases List.mem_append.mp hx with z | z
      · have := hlt x z; omega
      · rw [List.mem_singleton.mp z]; exact m24
    · refine g6.2.2.2.2.trans ?_
      exact (Ext_app (P := []) (ps := []) (ct := []) (g := gNow a6) (e := (6, Int32.ofNat (a_m a), 0, _, t1, gNow a6)) (show (6 : Nat) ≠ 2 by decide) rfl).1
  · show (a_t a6).drop 1 = []
    rw [g6t]; rfl
  · show (a_k a6 ++ [(nm, t1, a_m a6)]).Pairwise _
    rw [k6, m6]
    refine List.pairwise_append.mpr ⟨hk, List.pairwise_singleton _ _, fun x hx y hy => ?_⟩
    rw [List.mem_singleton.mp hy]
    exact hi.2.2.2.2.1 x hx
  · refine CTL_app (a := a6) (CTL_x hc g6 c6) (L := [_]) rfl (fun e he => ?_) rfl
    rw [List.mem_singleton.mp he]; exact show (6 : Nat) ≠ 33 by decide
/-- a statement's last item -/
theorem SG_end {op : Nat} {arg ty pl : Int32} {a4 : zA} (hk : KW a) (hc : CTL a) (hx : XG a a4) (hc4 : a_c a4 = a_c a) (hb : b = zE a4 op arg 0 ty pl) (hl : (a_t a4).length ≤ 80) (ho : op ≠ 2 ∧ op ≠ 0 ∧ op ≠ 26 ∧ op ≠ 33) (ht : tOk (a_q a4) (op, arg, 0, pl, ty, gNow a4)) (hf : falls op = true → gFits (gNx (a_q a4) (zL a4) (op, arg, 0, pl, ty, gNow a4)) (effS (a_q a4) op arg ty (a_t a4), (gNow a4).2)) (he : effS (a_q a4) op arg ty (a_t a4) = []) : SGr a b := by
  subst hb
  refine ⟨fun P _ w => ?_, he, ?_, ?_⟩
  · have w4 := hx.1 P w
    refine ⟨WTa_app w4 rfl rfl rfl hl ho.1 ho.2 ht hf ?_ w4.2.2, hx.2.2.2.2.trans ?_⟩
    · exact hOk_w (g := gNow a4) (hOk_pre w4.2.1 (List.prefix_append _ _)) (fun x hx => hx) rfl rfl
    · exact (Ext_app (P := []) (ps := []) (ct := []) (g := gNow a4) (e := (op, arg, 0, pl, ty, gNow a4)) ho.1 rfl).1
  · show (a_k a4).Pairwise _
    rw [hx.2.2.2.1]; exact hk
  · refine CTL_app (a := a4) (CTL_x hc hx hc4) (L := [_]) rfl (fun e he => ?_) rfl
    rw [List.mem_singleton.mp he]; exact ho.2.2.2
theorem gNx_f {ps : List zP} {k op : Nat} {arg ty pl : Int32} {g : zG} (h : op ≠ 6 ∧ op ≠ 2 ∧ op ≠ 33 ∧ op ≠ 34) : gFits (gNx ps k (op, arg, 0, pl, ty, g)) (effS ps op arg ty g.1, g.2) := by
  rw [gNx_d h]; exact gFits.refl _
theorem KW_u (h : KW a) {x y : Nat × Int32} (hx : x ∈ (gNow a).2.1) (hy : y ∈ (gNow a).2.1) (e : x.1 = y.1) : x = y := by
  obtain ⟨p, hp, rfl⟩ := List.mem_map.mp hx
  obtain ⟨q, hq, rfl⟩ := List.mem_map.mp hy
  have e : p.2.2 = q.2.2 := e
  suffices p = q by rw [this]
  obtain ⟨i, hi, rfl⟩ := List.getElem_of_mem hp
  obtain ⟨j, hj, rfl⟩ := List.getElem_of_mem hq
  have hh := List.pairwise_iff_getElem.mp h
  rcases Nat.lt_trichotomy i j with z | z | z
  · have := hh i j hi hj z; omega
  · subst z; rfl
  · have := hh j i hj hi z; omega
theorem eqx_c' (h : eqx a b) : a_c b = a_c a := h.2.2.2.2.2.2.1
theorem G_acts (hT : TK T N) (hs : HSt a) (ho : a_o a = 0) (h : zActs T a = .inr (y, b)) : SGr a b := by
  obtain ⟨hq, ht, hk, hc, hi, hp⟩ := hs
  unfold zActs at h
  rw [pb_inr] at h
  obtain ⟨t1, a1, h1, h⟩ := h
  obtain ⟨x1, w1⟩ := D_unit (D_X 10) hp h1
  have u1 : UG a a1 t1 := G_unit hT (G_X hT 10) hq (by rw [ht]; exact Nat.zero_le _) (by omega) h1
  obtain ⟨gx, go, gw⟩ := u1
  rw [ht] at gw
  have c1 : a_c a1 = a_c a := eqx_c' x1.1
  have KW1 : KW a1 := by unfold KW; rw [gx.2.2.2.1]; exact hk
  split at h
  · rw [it_l, it_r, pb_inr] at h
    obtain ⟨c2, c3, _, a2, h2, h⟩ := h
    obtain ⟨n2, e2⟩ := zN_inr.mp h2
    cases e2
    rw [pb_inr] at h
    obtain ⟨u, a3, h3, h⟩ := h
    have n2 : a_p a1 ≠ 800 := n2
    obtain ⟨x3, w3⟩ := D_Exp (by show a_p a1 + 1 ≤ 800; have := x1.2.2.1; omega) h3
    have c3' : a_c a3 = a_c a := (eqx_c' x3.1).trans c1
    rw [it_l, it_l, pb_inr] at h
    obtain ⟨-, cf, _, a4, h4, h⟩ := h
    obtain ⟨-, e4⟩ := zN_inr.mp h4
    cases e4
    have g3 := SubG_u (G_X hT 11) h3 (QB_x hq gx)
    rcases gw with ⟨q1, q2, q3⟩ | ⟨s, pl, q1, q2, q3⟩ | ⟨t, pl, q1, q2, q3, q4⟩ | ⟨t, f, pl, q1, qf, q2, q3, q4⟩
    · exfalso
      rcases w1 with ⟨-, z⟩ | ⟨z, -⟩ | ⟨z, -⟩ | ⟨z, -⟩
      · omega
      · have z : (a_w a1).1 = 5 := z; omega
      · have z : (a_w a1).1 = 15 := z; omega
      · have z : (a_w a1).1 = 17 := z; omega
    · have qw : (a_w a1).1 = 5 := by rw [q1]
      have s1 : a_s a1 = 1 := by
        rcases w1 with ⟨z, -⟩ | ⟨-, z⟩ | ⟨z, -⟩ | ⟨z, -⟩
        · have z : (a_w a1).1 = 0 := z; omega
        · exact z
        · have z : (a_w a1).1 = 15 := z; omega
        · have z : (a_w a1).1 = 17 := z; omega
      obtain ⟨x2, t2, -, -, -⟩ := g3 (by show (a_t a1).length ≤ _; rw [q2]; exact Nat.zero_le _) (by show a_o a1 ≤ 10; omega)
      have x2 : XG a1 a3 := x2
      have t2 : a_t a3 = [u] := by rw [← q2]; exact t2
      have s24 : s < 24 := by
        have := KB_s hi (s, t1) (by show _ ∈ (a_k a).map _; rw [← gx.2.2.2.1]; exact q3)
        exact this
      obtain ⟨pl', hb⟩ : ∃ pl', b = zE (aP a3 (a_p a3 + 1)) 6 (Int32.ofNat s) 0 t1 pl' := ⟨_, by
        have := (congrArg Prod.snd (Sum.inr.inj h)).symm
        rw [if_pos s1, q1] at this; exact this⟩
      have K3 : (gNow a3).2.1 = (gNow a1).2.1 := by show (a_k a3).map _ = (a_k a1).map _; rw [x2.2.2.2.1]
      refine SG_end (a4 := aP a3 (a_p a3 + 1)) hk hc (gx.trans (XG_P x2)) c3' hb (by show (a_t a3).length ≤ 80; rw [t2]; exact Nat.le_of_ble_eq_true rfl) (by decide) ⟨⟨u, [], t2, cf⟩, s, s24, rfl⟩ (fun _ => ⟨rfl, fun x hx => ?_, rfl, rfl⟩) (by show (a_t a3).drop 1 = []; rw [t2]; rfl)
      show x ∈ gSet (Int32.ofNat s).toNatClampNeg t1 (gNow a3).2.1
      have hx : x ∈ (gNow a3).2.1 := hx
      rw [i_tn (by omega), K3]
      rw [K3] at hx
      refine gSet_m ?_
      by_cases z : x.1 = s
      · exact Or.inl (KW_u KW1 hx q3 z)
      · exact Or.inr ⟨z, hx⟩
    · have qw : (a_w a1).1 = 15 := by rw [q1]
      have s1 : a_s a1 = 2 := by
        rcases w1 with ⟨z, -⟩ | ⟨z, -⟩ | ⟨-, z, -⟩ | ⟨z, -⟩
        · have z : (a_w a1).1 = 0 := z; omega
        · have z : (a_w a1).1 = 5 := z; omega
        · exact z
        · have z : (a_w a1).1 = 17 := z; omega
      obtain ⟨x2, t2, -, -, -⟩ := g3 (by show (a_t a1).length ≤ _; rw [q2]; exact Nat.le_add_right 2 _) (by show a_o a1 ≤ 10; omega)
      have x2 : XG a1 a3 := x2
      have t2 : a_t a3 = [u, 36, t] := by rw [← q2]; exact t2
      obtain ⟨pl', hb⟩ : ∃ pl', b = zE (aP a3 (a_p a3 + 1)) 16 0 0 t1 pl' := ⟨_, by
        have := (congrArg Prod.snd (Sum.inr.inj h)).symm
        rw [if_neg (by rw [s1]; decide), if_pos s1, q1] at this; exact this⟩
      exact SG_end (a4 := aP a3 (a_p a3 + 1)) hk hc (gx.trans (XG_P x2)) c3' hb (by show (a_t a3).length ≤ 80; rw [t2]; exact Nat.le_of_ble_eq_true rfl) (by decide) ⟨u, t, [], t2, q3, by rw [← q4]; exact cf⟩ (fun _ => gNx_f (by decide)) (by show (a_t a3).drop 3 = []; rw [t2]; rfl)
    · have qw : (a_w a1).1 = 17 := by rw [q1]
      have s1 : a_s a1 = 3 := by
        rcases w1 with ⟨z, -⟩ | ⟨z, -⟩ | ⟨z, -⟩ | ⟨-, z⟩
        · have z : (a_w a1).1 = 0 := z; omega
        · have z : (a_w a1).1 = 5 := z; omega
        · have z : (a_w a1).1 = 15 := z; omega
        · exact z
      obtain ⟨x2, t2, -, -, -⟩ := g3 (by show (a_t a1).length ≤ _; rw [q2]; show 1 ≤ _; omega) (by show a_o a1 ≤ 10; omega)
      have x2 : XG a1 a3 := x2
      have t2 : a_t a3 = [u, t] := by rw [← q2]; exact t2
      have c3 : ¬ (Int32.ofNat f = 2 ∨ Int32.ofNat f = 3 ∨ Int32.ofNat f = 4) := fun z => c3 ⟨s1, by rw [q1]; exact z⟩
      obtain ⟨pl', hb⟩ : ∃ pl', b = zE (aP a3 (a_p a3 + 1)) 18 (Int32.ofNat f) 0 t1 pl' := ⟨_, by
        have := (congrArg Prod.snd (Sum.inr.inj h)).symm
        rw [if_neg (by rw [s1]; decide), if_neg (by rw [s1]; decide), q1] at this; exact this⟩
      exact SG_end (a4 := aP a3 (a_p a3 + 1)) hk hc (gx.trans (XG_P x2)) c3' hb (by show (a_t a3).length ≤ 80; rw [t2]; exact Nat.le_of_ble_eq_true rfl) (by decide) ⟨u, t, [], t2, ⟨f, qf, rfl⟩, c3, q3, by show cFit u (if Int32.ofNat f = 1 then 0 else 36) = 1; rw [← q4]; exact cf⟩ (fun _ => gNx_f (by decide)) (by show (a_t a3).drop 2 = []; rw [t2]; rfl)
  · rw [it_l, pb_inr] at h
    obtain ⟨c2, _, a2, h2, h⟩ := h
    obtain ⟨-, e2⟩ := zN_inr.mp h2
    cases e2
    have hb := (congrArg Prod.snd (Sum.inr.inj h)).symm
    have q : a_t a1 = [t1] := by
      rcases gw with ⟨q1, q2, q3⟩ | ⟨s, pl, q1, -⟩ | ⟨t, pl, q1, -⟩ | ⟨t, f, pl, q1, -⟩
      · exact q2
      all_goals
        exfalso
        have qw := congrArg Prod.fst q1
        dsimp only at qw
        have c4 := c2.2
        rcases w1 with ⟨z, -⟩ | ⟨z, z2⟩ | ⟨z, z2, -⟩ | ⟨z, z2⟩
        · have z : (a_w a1).1 = 0 := z; omega
        all_goals omega
    by_cases q38 : t1 = 38
    · subst q38
      have hb : b = zE (aP a1 (a_p a1 + 1)) 35 0 0 0 (-1) := by rw [if_pos rfl] at hb; exact hb
      exact SG_end (a4 := aP a1 (a_p a1 + 1)) hk hc (XG_P gx) c1 hb (by show (a_t a1).length ≤ 80; rw [q]; exact Nat.le_of_ble_eq_true rfl) (by decide) ⟨[], q⟩ (fun _ => gNx_f (by decide)) (by show (a_t a1).drop 1 = []; rw [q]; rfl)
    · have hb : b = zE (aP a1 (a_p a1 + 1)) 1 0 0 0 (-1) := by rw [if_neg q38] at hb; exact hb
      exact SG_end (a4 := aP a1 (a_p a1 + 1)) hk hc (XG_P gx) c1 hb (by show (a_t a1).length ≤ 80; rw [q]; exact Nat.le_of_ble_eq_true rfl) (by decide) ⟨t1, [], q, q38⟩ (fun _ => gNx_f (by decide)) (by show (a_t a1).drop 1 = []; rw [q]; rfl)
end
