section
/-! STATEMENTS: how far reading goes -/
variable {T : zT} {a b c : zA} {y t : Int32} {blk : zA → zR} {P : Int32 → Prop}
theorem Pre_mod {k : Nat} {f : zI → zI} (h : Pre a b) (hk : zL a ≤ k) (hc : a_i c = (a_i b).modify k f) : Pre a c := by
  obtain ⟨m, hm⟩ := h
  unfold Pre
  rw [hc, ← hm]
  refine ⟨m.modify (k - zL a) f, ?_⟩
  apply List.ext_getElem?
  intro j
  simp only [List.getElem?_modify, List.getElem?_append, zL] at *
  by_cases h1 : j < (a_i a).length
  · simp [h1, show ¬ k = j by omega]
  · simp [h1]
    by_cases h2 : k = j
    · simp [h2]
    · simp [h2, show ¬ k - (a_i a).length = j - (a_i a).length by omega]
theorem zL_mod {k : Nat} {f : zI → zI} (hc : a_i c = (a_i b).modify k f) : zL c = zL b := by
  unfold zL; rw [hc, List.length_modify]
/-- names: slots below what was made -/
def KB (P : Int32 → Prop) (a : zA) : Prop := (a_k a).length ≤ a_m a ∧ a_m a ≤ 24 ∧ (∀ e ∈ a_k a, e.2.2 < a_m a) ∧ ∀ e ∈ a_k a, P e.2.1
/-- nothing waits, no name is being made -/
def In0 (P : Int32 → Prop) (a : zA) : Prop := wN a = 0 ∧ a_x a = none ∧ KB P a
/-- what is read as a type is one -/
def PT_ (T : zT) (P : Int32 → Prop) : Prop := P 36 ∧ ∀ a y b, zTy T a = .inr (y, b) → P y
/-- n tokens at least -/
def Dst (n : Nat) (a b : zA) : Prop := a_p a + n ≤ a_p b ∧ a_p b ≤ 800 ∧ zL b + a_p a + n ≤ zL a + a_p b ∧ Pre a b ∧ a_k a <+: a_k b ∧ a_m a ≤ a_m b ∧ a_q b = a_q a ∧ a_b b = a_b a ∧ a_h b = a_h a ∧ a_r b = a_r a ∧ a_c a <+: a_c b ∧ 9 * (a_c b).length + a_p a + n ≤ 9 * (a_c a).length + a_p b
theorem Dst.trans {m n : Nat} (h : Dst m a b) (k : Dst n b c) : Dst (m + n) a c := by
  obtain ⟨h1, h2, h3, h4, h5, h6, h7, h8, h9, h10, h11, h12⟩ := h
  obtain ⟨k1, k2, k3, k4, k5, k6, k7, k8, k9, k10, k11, k12⟩ := k
  exact ⟨by omega, k2, by omega, h4.trans k4, h5.trans k5, by omega, k7.trans h7, k8.trans h8, k9.trans h9, k10.trans h10, h11.trans k11, by omega⟩
theorem Dst.le {m n : Nat} (h : Dst m a b) (k : n ≤ m) : Dst n a b := by
  obtain ⟨h1, h2, h3, h4, h5, h6, h7, h8, h9, h10, h11, h12⟩ := h
  exact ⟨by omega, h2, by omega, h4, h5, h6, h7, h8, h9, h10, h11, by omega⟩
theorem Dst_N {x : Int32 × zA} (hp : a_p a ≤ 800) (h : zN a = .inr x) : Dst 1 a x.2 := by
  obtain ⟨n1, rfl⟩ := zN_inr.mp h
  exact ⟨Nat.le_refl _, by show a_p a + 1 ≤ 800; omega, Nat.le_refl _, Pre.refl a, List.prefix_refl _, Nat.le_refl _, rfl, rfl, rfl, rfl, List.prefix_refl _, Nat.le_refl _⟩
theorem In0_N {x : Int32 × zA} (h : zN a = .inr x) (hi : In0 P a) : In0 P x.2 := by
  obtain ⟨n1, rfl⟩ := zN_inr.mp h; exact hi
theorem Dst_must {c : Int32} {x : Int32 × zA} (hp : a_p a ≤ 800) (h : zMust T c a = .inr x) : Dst 1 a x.2 := by
  unfold zMust at h; rw [it_l] at h; exact Dst_N hp h.2
/-- one more item for one more token -/
theorem Dst_E {n op : Nat} {arg ty pl : Int32} {tgt : Nat} (h : Dst (n + 1) a b) : Dst n a (zE b op arg tgt ty pl) := by
  obtain ⟨h1, h2, h3, h4, h5, h6, h7, h8, h9, h10, h11, h12⟩ := h
  refine ⟨by show a_p a + n ≤ a_p b; omega, h2, ?_, h4.trans Pre_E, h5, h6, h7, h8, h9, h10, h11, by show 9 * (a_c b).length + a_p a + n ≤ 9 * (a_c a).length + a_p b; omega⟩
  rw [zL_E]
  show zL b + 1 + a_p a + n ≤ zL a + a_p b
  omega
theorem Dst_x (h : Dx (zL a) a b) (hw : (b.2.2.1).1 = 0) (hq : Pre a b) : Dst 0 a b := by
  obtain ⟨⟨h1, h2, h3, h4, h5, h6, h7, h8, h9⟩, k2, k3, k4⟩ := h
  rw [wN_0 hw] at k4
  exact ⟨by omega, k3, by omega, hq, by rw [h1]; exact List.prefix_refl _, by rw [h2]; exact Nat.le_refl _, h4, h5, h6, h9, by rw [h7]; exact List.prefix_refl _, by rw [h7]; omega⟩
theorem wN_z (h : (b.2.2.1).1 = 0) : wN b = 0 := by
  unfold wN; rw [show a_w b = b.2.2.1 from rfl, h]; rfl
theorem In0_x (h : eqx a b) (hw : (b.2.2.1).1 = 0) (hx : a_x a = none) (hk : KB P a) : In0 P b := by
  obtain ⟨h1, h2, h3, h4, h5, h6, h7, h8, h9⟩ := h
  refine ⟨wN_z hw, h3.trans hx, ?_⟩
  unfold KB; rw [h1, h2]; exact hk
theorem KB_know {n : List Int32} (h : KB P a) (hm : a_m a ≠ 24) (ht : P t) : KB P (zKnow n t a) := by
  obtain ⟨h1, h2, h3, h4⟩ := h
  refine ⟨?_, ?_, ?_, ?_⟩
  · show (a_k a ++ [_]).length ≤ a_m a + 1
    rw [List.length_append]; show (a_k a).length + 1 ≤ _; omega
  · show a_m a + 1 ≤ 24; omega
  · intro e he
    show e.2.2 < a_m a + 1
    have he : e ∈ a_k a ++ [(n, t, a_m a)] := he
    rcases List.mem_append.mp he with q | q
    · have := h3 e q; omega
    · rcases List.mem_singleton.mp q with rfl; exact Nat.lt_succ_self _
  · intro e he
    have he : e ∈ a_k a ++ [(n, t, a_m a)] := he
    rcases List.mem_append.mp he with q | q
    · exact h4 e q
    · rcases List.mem_singleton.mp q with rfl; exact ht
/-- a name is known now -/
theorem Dst_know {n : Nat} {nm : List Int32} (h : Dst n a b) : Dst n a (zKnow nm t b) := by
  obtain ⟨h1, h2, h3, h4, h5, h6, h7, h8, h9, h10, h11, h12⟩ := h
  exact ⟨h1, h2, h3, h4, h5.trans (List.prefix_append _ _), by show a_m a ≤ a_m b + 1; omega, h7, h8, h9, h10, h11, h12⟩
theorem D_ty (hp : a_p a ≤ 800) (h : zTy T a = .inr (y, b)) : Dst 1 a b ∧ (∃ p, b = aP a p) := by
  obtain ⟨-, n1, h2⟩ := zTy_inr h
  rcases h2 with ⟨h2, -⟩ | ⟨-, -, n2, -, n3, h2⟩
  · cases h2
    exact ⟨⟨by show a_p a + 1 ≤ a_p a + 1; omega, by show a_p a + 1 ≤ 800; omega, by show zL a + a_p a + 1 ≤ zL a + (a_p a + 1); omega, Pre.refl a, List.prefix_refl _, Nat.le_refl _, rfl, rfl, rfl, rfl, List.prefix_refl _, by show 9 * (a_c a).length + a_p a + 1 ≤ 9 * (a_c a).length + (a_p a + 1); omega⟩, _, rfl⟩
  · cases h2
    exact ⟨⟨by show a_p a + 1 ≤ a_p a + 3; omega, by show a_p a + 3 ≤ 800; omega, by show zL a + a_p a + 1 ≤ zL a + (a_p a + 3); omega, Pre.refl a, List.prefix_refl _, Nat.le_refl _, rfl, rfl, rfl, rfl, List.prefix_refl _, by show 9 * (a_c a).length + a_p a + 1 ≤ 9 * (a_c a).length + (a_p a + 3); omega⟩, _, rfl⟩
theorem D_var (hP : PT_ T P) (hp : a_p a ≤ 800) (hi : In0 P a) (h : zVar T a = .inr (y, b)) : Dst 1 a b ∧ In0 P b := by
  unfold zVar at h
  rw [pb_inr] at h
  obtain ⟨_, a1, h1, h⟩ := h
  have d1 := Dst_N hp h1
  have i1 := In0_N h1 hi
  rw [pb_inr] at h
  obtain ⟨t1, a2, h2, h⟩ := h
  obtain ⟨d2, p2, e2⟩ := D_ty d1.2.1 h2
  have i2 : In0 P a2 := by rw [e2]; exact i1
  rw [pb_inr] at h
  obtain ⟨sl, a3, h3, h⟩ := h
  obtain ⟨-, -, m3, n3, e3⟩ := zNewN_inr h3
  cases e3
  have h4 : zN a2 = .inr (0, aP a2 (a_p a2 + 1)) := zN_inr.mpr ⟨n3, rfl⟩
  have d4 := Dst_N d2.2.1 h4
  have i4 := In0_N h4 i2
  have m4 : a_m (aP a2 (a_p a2 + 1)) ≠ 24 := m3
  generalize aP a2 (a_p a2 + 1) = a4 at *
  rw [pb_inr] at h
  obtain ⟨_, a5, h5, h⟩ := h
  have d5 := Dst_must (a := aX a4 (some (T.2.1 (a_p a2), t1))) d4.2.1 h5
  obtain ⟨-, -, e5⟩ := zMust_inr.mp h5
  cases e5
  rw [pb_inr] at h
  obtain ⟨u, a6, h6, h⟩ := h
  obtain ⟨x6, w6⟩ := D_Exp d5.2.1 h6
  have d6 := Dst_x x6 w6 (Pre_X 11 _ _ _ h6)
  rw [it_l, it_l, pb_inr] at h
  obtain ⟨-, -, _, a7, h7, h⟩ := h
  have d7 := Dst_N d6.2.1 h7
  obtain ⟨-, e7⟩ := zN_inr.mp h7
  cases e7
  cases h
  have k6 : KB P a6 := by
    obtain ⟨⟨g1, g2, -⟩, -⟩ := x6
    have g1 : a_k a6 = a_k a4 := g1
    have g2 : a_m a6 = a_m a4 := g2
    unfold KB; rw [g1, g2]; exact i4.2.2
  have m6 : a_m a6 ≠ 24 := by
    obtain ⟨⟨g1, g2, -⟩, -⟩ := x6
    have g2 : a_m a6 = a_m a4 := g2
    rw [g2]; exact m4
  refine ⟨Dst_know (Dst_E (n := 1) ?_), ⟨?_, rfl, KB_know (a := zE (aP a6 _) _ _ _ _ _) k6 m6 (hP.2 _ _ _ h2)⟩⟩
  · have D5 : Dst 1 a4 (aP (aX a4 (some (T.2.1 (a_p a2), t1))) (a_p (aX a4 (some (T.2.1 (a_p a2), t1))) + 1)) := d5
    exact ((((d1.trans d2).trans d4).trans D5).trans (d6.trans d7)).le (by omega)
  · exact wN_z (b := zKnow _ _ (zE (aP a6 _) _ _ _ _ _)) w6
theorem D_acts (hp : a_p a ≤ 800) (hi : In0 P a) (h : zActs T a = .inr (y, b)) : Dst 0 a b ∧ In0 P b := by
  unfold zActs at h
  rw [pb_inr] at h
  obtain ⟨t1, a1, h1, h⟩ := h
  obtain ⟨x1, w1⟩ := D_unit (D_X 10) hp h1
  have q1 := Pre_unit (Pre_X 10) h1
  have D1 : zL a1 + a_p a ≤ zL a + a_p a1 ∧ a_p a < a_p a1 := by
    obtain ⟨-, g2, -, g4⟩ := x1
    unfold nW at g4
    exact ⟨by omega, g2⟩
  have D1 : Dst 0 a a1 := by
    obtain ⟨⟨g1, g2, g3, g4, g5, g6, g7, g8, g9⟩, k2, k3, k4⟩ := x1
    exact ⟨by omega, k3, by omega, q1, by rw [g1]; exact List.prefix_refl _, by rw [g2]; exact Nat.le_refl _, g4, g5, g6, g9, by rw [g7]; exact List.prefix_refl _, by rw [g7]; omega⟩
  by_cases c1 : T.1 (a_p a1) = 61
  · rw [if_pos c1, it_l, it_r, pb_inr] at h
    obtain ⟨c2, c3, _, a2, h2, h⟩ := h
    have d2 := Dst_N (a := aW a1 (0, 0, 0, 0)) x1.2.2.1 h2
    obtain ⟨-, e2⟩ := zN_inr.mp h2
    cases e2
    rw [pb_inr] at h
    obtain ⟨u, a3, h3, h⟩ := h
    obtain ⟨x3, w3⟩ := D_Exp d2.2.1 h3
    have d3 := Dst_x x3 w3 (Pre_X 11 _ _ _ h3)
    rw [it_l, it_l, pb_inr] at h
    obtain ⟨-, -, _, a4, h4, h⟩ := h
    have d4 := Dst_N d3.2.1 h4
    obtain ⟨-, e4⟩ := zN_inr.mp h4
    cases e4
    cases h
    have d2' : Dst 1 a1 (aP (aW a1 (0, 0, 0, 0)) (a_p (aW a1 (0, 0, 0, 0)) + 1)) := d2
    refine ⟨Dst_E (n := 0) ((D1.trans (d2'.trans (d3.trans d4))).le (by omega)), ?_⟩
    have x13 : eqx a a3 := x1.1.trans x3.1
    have := In0_x (b := a3) x13 w3 hi.2.1 hi.2.2
    exact this
  · rw [if_neg c1, it_l, pb_inr] at h
    obtain ⟨c2, _, a2, h2, h⟩ := h
    have d2 := Dst_N x1.2.2.1 h2
    obtain ⟨-, e2⟩ := zN_inr.mp h2
    cases e2
    cases h
    refine ⟨Dst_E (n := 0) ((D1.trans d2).le (by omega)), ?_⟩
    have hw : (a1.2.2.1).1 = 0 := by
      rcases w1 with ⟨w, -⟩ | ⟨-, w⟩ | ⟨-, w, -⟩ | ⟨-, w⟩
      · exact w
      · rw [c2.2] at w; cases w
      · rw [c2.2] at w; cases w
      · rw [c2.2] at w; cases w
    exact In0_x (b := a1) x1.1 hw hi.2.1 hi.2.2
theorem eqx_o3 {a a1 b : zA} (h1 : eqx (aO a (a_o a + 1)) a1) (h2 : eqx (aO a1 (a_o a1 - 1)) b) : eqx a b := by
  obtain ⟨g1, g2, g3, g4, g5, g6, g7, g8, g9⟩ := h1
  obtain ⟨k1, k2, k3, k4, k5, k6, k7, k8, k9⟩ := h2
  have g8 : a_o a1 = a_o a + 1 := g8
  have k8 : a_o b = a_o a1 - 1 := k8
  exact ⟨k1.trans g1, k2.trans g2, k3.trans g3, k4.trans g4, k5.trans g5, k6.trans g6, k7.trans g7, by omega, k9.trans g9⟩
theorem Dst_opens {c : Int32} {x : Int32 × zA} (hp : a_p a ≤ 800) (h : zOpens T c a = .inr x) : Dst 1 a x.2 := by
  unfold zOpens at h; rw [it_l] at h; exact (Dst_N (a := aO a (a_o a + 1)) hp h.2)
theorem D_cond {p0 : Nat} (hp : a_p a ≤ 800) (hi : In0 P a) (h : zCond T p0 a = .inr (y, b)) : Dst 2 a b ∧ In0 P b ∧ (∃ e, a_i b = a_i a ++ e) ∧ ∃ c, a_i b = a_i c ++ [(26, 0, 0, T.2.2.2 p0, 0, gNow c)] ∧ Pre a c := by
  unfold zCond at h
  rw [pb_inr] at h
  obtain ⟨_, a1, h1, h⟩ := h
  have d1 := Dst_N hp h1
  obtain ⟨-, e1⟩ := zN_inr.mp h1
  cases e1
  unfold zCon at h
  rw [pb_inr] at h
  obtain ⟨_, a2, h2, h⟩ := h
  have d2 := Dst_opens d1.2.1 h2
  obtain ⟨-, -, e2⟩ := zOpens_inr.mp h2
  cases e2
  rw [pb_inr] at h
  obtain ⟨u, a3, h3, h⟩ := h
  obtain ⟨x3, w3⟩ := D_X 10 _ _ _ d2.2.1 h3
  have p3 := Pre_X 10 _ _ _ h3
  have d3 := Dst_x x3 w3 p3
  rw [it_l, it_l, pb_inr] at h
  obtain ⟨-, -, _, a4, h4, h⟩ := h
  have d4 := Dst_N (a := aO a3 (a_o a3 - 1)) d3.2.1 h4
  obtain ⟨-, e4⟩ := zN_inr.mp h4
  cases e4
  cases h
  have d4' : Dst 1 a3 (aP (aO a3 (a_o a3 - 1)) (a_p (aO a3 (a_o a3 - 1)) + 1)) := d4
  refine ⟨Dst_E (n := 2) (((d1.trans d2).trans (d3.trans d4')).le (by omega)), ?_, ?_, ?_⟩
  · have := In0_x (b := a3) (a := aO a (a_o a + 1)) x3.1 w3 hi.2.1 hi.2.2
    exact this
  · have p3 : Pre a a3 := p3
    obtain ⟨m, hm⟩ := p3
    exact ⟨m ++ [_], by rw [← List.append_assoc, hm]; rfl⟩
  · exact ⟨aP (aO a3 (a_o a3 - 1)) (a_p (aO a3 (a_o a3 - 1)) + 1), rfl, p3⟩
theorem D_ret (hp : a_p a ≤ 800) (hi : In0 P a) (h : zRet T a = .inr (y, b)) : Dst 0 a b ∧ In0 P b := by
  unfold zRet at h
  rw [pb_inr] at h
  obtain ⟨_, a1, h1, h⟩ := h
  have d1 := Dst_N hp h1
  have i1 := In0_N h1 hi
  split at h
  · rw [it_l, pb_inr] at h
    obtain ⟨-, _, a2, h2, h⟩ := h
    have d2 := Dst_N d1.2.1 h2
    have i2 := In0_N h2 i1
    cases h
    exact ⟨Dst_E (n := 0) ((d1.trans d2).le (by omega)), i2⟩
  · rw [pb_inr] at h
    obtain ⟨u, a2, h2, h⟩ := h
    obtain ⟨x2, w2⟩ := D_Exp d1.2.1 h2
    have d2 := Dst_x x2 w2 (Pre_X 11 _ _ _ h2)
    rw [it_l, it_l, pb_inr] at h
    obtain ⟨-, -, _, a3, h3, h⟩ := h
    have d3 := Dst_N d2.2.1 h3
    have i3 := In0_N h3 (In0_x x2.1 w2 i1.2.1 i1.2.2)
    cases h
    exact ⟨Dst_E (n := 0) ((d1.trans (d2.trans d3)).le (by omega)), i3⟩
theorem D_say (hp : a_p a ≤ 800) (hi : In0 P a) (h : zSay T a = .inr (y, b)) : Dst 0 a b ∧ In0 P b := by
  unfold zSay at h
  rw [pb_inr] at h
  obtain ⟨_, a1, h1, h⟩ := h
  have d1 := Dst_N hp h1
  have i1 := In0_N h1 hi
  rw [pb_inr] at h
  obtain ⟨u, a2, h2, h⟩ := h
  obtain ⟨x2, w2⟩ := D_Exp d1.2.1 h2
  have d2 := Dst_x x2 w2 (Pre_X 11 _ _ _ h2)
  rw [it_l, it_l, pb_inr] at h
  obtain ⟨-, -, _, a3, h3, h⟩ := h
  have d3 := Dst_N d2.2.1 h3
  have i3 := In0_N h3 (In0_x x2.1 w2 i1.2.1 i1.2.2)
  cases h
  exact ⟨Dst_E (n := 0) ((d1.trans (d2.trans d3)).le (by omega)), i3⟩
theorem D_fail (hp : a_p a ≤ 800) (hi : In0 P a) (h : zFail T a = .inr (y, b)) : Dst 0 a b ∧ In0 P b := by
  unfold zFail at h
  rw [pb_inr] at h
  obtain ⟨_, a1, h1, h⟩ := h
  have d1 := Dst_N hp h1
  have i1 := In0_N h1 hi
  rw [pb_inr] at h
  obtain ⟨u, a2, h2, h⟩ := h
  obtain ⟨x2, w2⟩ := D_Exp d1.2.1 h2
  have d2 := Dst_x x2 w2 (Pre_X 11 _ _ _ h2)
  rw [it_l, it_l, pb_inr] at h
  obtain ⟨-, -, _, a3, h3, h⟩ := h
  have d3 := Dst_N d2.2.1 h3
  have i3 := In0_N h3 (In0_x x2.1 w2 i1.2.1 i1.2.2)
  cases h
  exact ⟨Dst_E (n := 0) ((d1.trans (d2.trans d3)).le (by omega)), i3⟩
/-- what a block comes to: names are those of before -/
def SubB (P : Int32 → Prop) (blk : zA → zR) : Prop := ∀ a y b, a_p a ≤ 800 → In0 P a → blk a = .inr (y, b) → Dst 2 a b ∧ In0 P b ∧ a_k b = a_k a
/-- a target is set -/
theorem Dst_X {n k tgt : Nat} (h : Dst n a b) (hk : zL a ≤ k) : Dst n a (zX b k tgt) := by
  obtain ⟨h1, h2, h3, h4, h5, h6, h7, h8, h9, h10, h11, h12⟩ := h
  exact ⟨h1, h2, by rw [zL_mod (c := zX b k tgt) (b := b) rfl]; exact h3, Pre_mod (c := zX b k tgt) h4 hk rfl, h5, h6, h7, h8, h9, h10, h11, h12⟩
theorem D_if (hb : SubB P blk) (hp : a_p a ≤ 800) (hi : In0 P a) (h : zIf T blk a = .inr (y, b)) : Dst 0 a b ∧ In0 P b := by
  unfold zIf at h
  rw [pb_inr] at h
  obtain ⟨_, a1, h1, h⟩ := h
  obtain ⟨d1, i1, ⟨e1, he1⟩, c1, hc1, hc2⟩ := D_cond hp hi h1
  have l1 : zL a ≤ zL a1 - 1 := by
    have q := hc2.length_le
    have q2 : zL a1 = (a_i c1).length + 1 := by unfold zL; rw [hc1, List.length_append]; rfl
    unfold zL at *; omega
  rw [pb_inr] at h
  obtain ⟨_, a2, h2, h⟩ := h
  obtain ⟨d2, i2, k2⟩ := hb _ _ _ d1.2.1 i1 h2
  have l2 : zL a1 ≤ zL a2 := d2.2.2.2.1.length_le
  split at h
  · rw [pb_inr] at h
    obtain ⟨_, a3, h3, h⟩ := h
    rw [pb_inr] at h
    obtain ⟨_, a4, h4, h⟩ := h
    have D3 : Dst 3 a (zX (zE a2 0 0 0 0 (-1)) (zL a1 - 1) (zL a2 + 1)) := Dst_X (Dst_E (n := 3) (d1.trans d2)) l1
    have d3 := Dst_N D3.2.1 h3
    have i3 := In0_N h3 i2
    obtain ⟨d4, i4, k4⟩ := hb _ _ _ d3.2.1 i3 h4
    cases h
    exact ⟨Dst_X ((D3.trans (d3.trans d4)).le (by omega)) (by omega), i4⟩
  · cases h
    exact ⟨Dst_X ((d1.trans d2).le (by omega)) l1, i2⟩
theorem D_while (hb : SubB P blk) (hp : a_p a ≤ 800) (hi : In0 P a) (h : zWhile T blk a = .inr (y, b)) : Dst 0 a b ∧ In0 P b := by
  unfold zWhile at h
  rw [pb_inr] at h
  obtain ⟨_, a1, h1, h⟩ := h
  obtain ⟨d1, i1, ⟨e1, he1⟩, c1, hc1, hc2⟩ := D_cond hp hi h1
  have l1 : zL a ≤ zL a1 - 1 := by
    have q := hc2.length_le
    have q2 : zL a1 = (a_i c1).length + 1 := by unfold zL; rw [hc1, List.length_append]; rfl
    unfold zL at *; omega
  rw [pb_inr] at h
  obtain ⟨_, a2, h2, h⟩ := h
  obtain ⟨d2, i2, k2⟩ := hb _ _ _ d1.2.1 i1 h2
  cases h
  exact ⟨Dst_X (Dst_E (n := 0) ((d1.trans d2).le (by omega))) l1, i2⟩
theorem D_try (hP : PT_ T P) (hb : SubB P blk) (hp : a_p a ≤ 800) (hi : In0 P a) (h : zTry T blk a = .inr (y, b)) : Dst 0 a b ∧ In0 P b := by
  unfold zTry at h
  rw [pb_inr] at h
  obtain ⟨_, a1, h1, h⟩ := h
  have d1 := Dst_N hp h1
  have i1 := In0_N h1 hi
  rw [pb_inr] at h
  obtain ⟨_, a2, h2, h⟩ := h
  have P1 : a_p (aC (aH (zE a1 33 0 0 0 (-1)) (zL a1 :: a_h a1)) (a_c a1 ++ [zL a1])) ≤ 800 := d1.2.1
  obtain ⟨d2, i2, k2⟩ := hb _ _ _ P1 i1 h2
  rw [pb_inr] at h
  obtain ⟨_, a3, h3, h⟩ := h
  have d3 := Dst_must (a := zE (aH (zE a2 34 0 0 0 (-1)) (a_h a1)) 0 0 0 0 (-1)) d2.2.1 h3
  have i3 : In0 P a3 := by obtain ⟨-, -, e⟩ := zMust_inr.mp h3; cases e; exact i2
  rw [pb_inr] at h
  obtain ⟨_, a4, h4, h⟩ := h
  have d4 := Dst_must d3.2.1 h4
  have i4 : In0 P a4 := by obtain ⟨-, -, e⟩ := zMust_inr.mp h4; cases e; exact i3
  rw [pb_inr] at h
  obtain ⟨sl, a5, h5, h⟩ := h
  obtain ⟨-, -, m5, n5, e5⟩ := zNewN_inr h5
  cases e5
  have h6 : zN a4 = .inr (0, aP a4 (a_p a4 + 1)) := zN_inr.mpr ⟨n5, rfl⟩
  have d6 := Dst_N d4.2.1 h6
  have i6 := In0_N h6 i4
  have m6 : a_m (aP a4 (a_p a4 + 1)) ≠ 24 := m5
  generalize aP a4 (a_p a4 + 1) = a6 at *
  rw [pb_inr] at h
  obtain ⟨_, a7, h7, h⟩ := h
  have d7 := Dst_must (a := aX a6 (some (T.2.1 (a_p a4), 36))) d6.2.1 h7
  obtain ⟨-, -, e7⟩ := zMust_inr.mp h7
  have e7 : a7 = aP (aX a6 (some (T.2.1 (a_p a4), 36))) (a_p a6 + 1) := congrArg Prod.snd e7
  have m7 : a_m a7 ≠ 24 := by rw [e7]; exact m6
  have K7 : KB P a7 := by rw [e7]; exact i6.2.2
  have W7 : wN a7 = 0 := by rw [e7]; exact i6.1
  rw [pb_inr] at h
  obtain ⟨_, a8, h8, h⟩ := h
  have P7 : a_p (zKnow (T.2.1 (a_p a4)) 36 (zE (zCat (zL a1) (a_c a1).length (zL a7) (a_m a7) a7) 2 (Int32.ofNat (a_m a4)) 0 36 (-1))) ≤ 800 := d7.2.1
  have I7 : In0 P (zKnow (T.2.1 (a_p a4)) 36 (zE (zCat (zL a1) (a_c a1).length (zL a7) (a_m a7) a7) 2 (Int32.ofNat (a_m a4)) 0 36 (-1))) := ⟨W7, rfl, KB_know (a := zE (zCat (zL a1) (a_c a1).length (zL a7) (a_m a7) a7) 2 (Int32.ofNat (a_m a4)) 0 36 (-1)) K7 m7 hP.1⟩
  obtain ⟨d8, i8, k8⟩ := hb _ _ _ P7 I7 h8
  cases h
  have D27 : Dst 4 (zE (aH (zE a2 34 0 0 0 (-1)) (a_h a1)) 0 0 0 0 (-1)) a7 := by
    have d7' : Dst 1 a6 a7 := d7
    exact (d3.trans (d4.trans (d6.trans d7'))).le (by omega)
  obtain ⟨A1, A2, A3, A4, A5, A6, A7, A8, A9, A10, A11, A12⟩ := d1
  obtain ⟨B1, B2, B3, B4, B5, B6, B7, B8, B9, B10, B11, B12⟩ := d2
  obtain ⟨C1, C2, C3, C4, C5, C6, C7, C8, C9, C10, C11, C12⟩ := D27
  obtain ⟨E1, E2, E3, E4, E5, E6, E7, E8, E9, E10, E11, E12⟩ := d8
  have A1 : a_p a + 1 ≤ a_p a1 := A1
  have A3 : zL a1 + a_p a + 1 ≤ zL a + a_p a1 := A3
  have A6 : a_m a ≤ a_m a1 := A6
  have A12 : 9 * (a_c a1).length + a_p a + 1 ≤ 9 * (a_c a).length + a_p a1 := A12
  have B1 : a_p a1 + 2 ≤ a_p a2 := B1
  have B3 : zL a2 + a_p a1 + 2 ≤ zL (zE a1 33 0 0 0 (-1)) + a_p a2 := B3
  rw [zL_E] at B3
  have B12 : 9 * (a_c a2).length + a_p a1 + 2 ≤ 9 * (a_c a1 ++ [zL a1]).length + a_p a2 := B12
  rw [List.length_append] at B12
  have B12 : 9 * (a_c a2).length + a_p a1 + 2 ≤ 9 * ((a_c a1).length + 1) + a_p a2 := B12
  have C1 : a_p a2 + 4 ≤ a_p a7 := C1
  have C3 : zL a7 + a_p a2 + 4 ≤ zL (zE (aH (zE a2 34 0 0 0 (-1)) (a_h a1)) 0 0 0 0 (-1)) + a_p a7 := C3
  rw [zL_E, show zL (aH (zE a2 34 0 0 0 (-1)) (a_h a1)) = zL (zE a2 34 0 0 0 (-1)) from rfl, zL_E] at C3
  have C12 : 9 * (a_c a7).length + a_p a2 + 4 ≤ 9 * (a_c a2).length + a_p a7 := C12
  have E1 : a_p a7 + 2 ≤ a_p a8 := E1
  have E3 : zL a8 + a_p a7 + 2 ≤ zL (zE (zCat (zL a1) (a_c a1).length (zL a7) (a_m a7) a7) 2 (Int32.ofNat (a_m a4)) 0 36 (-1)) + a_p a8 := E3
  rw [zL_E, zL_mod (c := zCat (zL a1) (a_c a1).length (zL a7) (a_m a7) a7) (b := a7) rfl] at E3
  have E12 : 9 * (a_c a8).length + a_p a7 + 2 ≤ 9 * ((a_c a7).set (a_c a1).length (zL a7)).length + a_p a8 := E12
  rw [List.length_set] at E12
  have Q2 : Pre a a2 := A4.trans ((Pre_E (a := a1)).trans B4)
  have Q7 : Pre a a7 := Q2.trans ((Pre_E (a := a2)).trans ((Pre_E (a := aH (zE a2 34 0 0 0 (-1)) (a_h a1))).trans C4))
  have l1 : zL a ≤ zL a1 := A4.length_le
  have l2 : zL a1 ≤ zL a2 := ((Pre_E (a := a1)).trans B4).length_le
  have Q7' : Pre a (zCat (zL a1) (a_c a1).length (zL a7) (a_m a7) a7) := Pre_mod Q7 l1 rfl
  have Q8 : Pre a a8 := Q7'.trans ((Pre_E (a := zCat (zL a1) (a_c a1).length (zL a7) (a_m a7) a7)).trans E4)
  have N2 : a_k a <+: a_k a2 := A5.trans (show a_k a1 <+: a_k a2 by rw [k2]; exact List.prefix_refl _)
  have N7 : a_k a <+: a_k a7 := N2.trans C5
  have cq : a_c a1 = a_c a := by obtain ⟨-, e⟩ := zN_inr.mp h1; cases e; rfl
  have lc : (a_c a1).length = (a_c a).length := by rw [cq]
  have G7 : a_c a <+: a_c a7 := (A11.trans ((List.prefix_append _ _).trans B11)).trans C11
  have G8 : a_c a <+: (a_c a7).set (a_c a1).length (zL a7) := by
    obtain ⟨m, hm⟩ := G7
    rw [← hm, lc, List.set_append_right (a_c a).length _ (Nat.le_refl _)]
    exact List.prefix_append _ _
  refine ⟨⟨by show a_p a + 0 ≤ a_p a8; omega, E2, ?_, Pre_mod (b := aK a8 (a_k a7)) Q8 (k := zL a2 + 1) (by omega) rfl, N7, ?_, ?_, ?_, ?_, ?_, G8.trans E11, ?_⟩, i8.1, i8.2.1, ?_⟩
  · rw [zL_mod (c := zX (aK a8 (a_k a7)) (zL a2 + 1) (zL a8)) (b := aK a8 (a_k a7)) rfl]
    show zL a8 + a_p a + 0 ≤ zL a + a_p a8
    omega
  · show a_m a ≤ a_m a8
    have B6 : a_m a1 ≤ a_m a2 := B6
    have C6 : a_m a2 ≤ a_m a7 := C6
    have E6 : a_m a7 + 1 ≤ a_m a8 := E6
    omega
  · exact E7.trans (C7.trans (B7.trans A7))
  · exact E8.trans (C8.trans (B8.trans A8))
  · exact E9.trans (C9.trans A9)
  · exact E10.trans (C10.trans (B10.trans A10))
  · show 9 * (a_c a8).length + a_p a + 0 ≤ 9 * (a_c a).length + a_p a8
    omega
  · obtain ⟨K1, K2, K3, K4⟩ := i8.2.2
    have E6 : a_m a7 + 1 ≤ a_m a8 := E6
    refine ⟨by show (a_k a7).length ≤ a_m a8; have := K7.1; omega, K2, fun e he => ?_, K7.2.2.2⟩
    have := K7.2.2.1 e he
    show e.2.2 < a_m a8
    omega
theorem D_stat (hP : PT_ T P) (hb : SubB P blk) (hp : a_p a ≤ 800) (hi : In0 P a) (h : zStat T blk a = .inr (y, b)) : Dst 0 a b ∧ In0 P b := by
  unfold zStat zSta at h
  have hp' : a_p (aO a 0) ≤ 800 := hp
  have hi' : In0 P (aO a 0) := hi
  split at h
  · exact ⟨(D_var (a := aO a 0) hP hp' hi' h).1.le (by omega), (D_var (a := aO a 0) hP hp' hi' h).2⟩
  split at h
  · exact D_if (a := aO a 0) hb hp' hi' h
  split at h
  · exact D_while (a := aO a 0) hb hp' hi' h
  split at h
  · exact D_try (a := aO a 0) hP hb hp' hi' h
  split at h
  · exact D_ret (a := aO a 0) hp' hi' h
  split at h
  · exact D_say (a := aO a 0) hp' hi' h
  split at h
  · exact D_fail (a := aO a 0) hp' hi' h
  · exact D_acts (a := aO a 0) hp' hi' h
end
section
variable {T : zT} {a b c : zA} {y t : Int32} {blk : zA → zR} {P : Int32 → Prop}
theorem D_stats (hP : PT_ T P) (hb : SubB P blk) : ∀ (f : Nat) (a : zA) (y : Int32) (b : zA), a_p a ≤ 800 → In0 P a → zStats T blk f a = .inr (y, b) → Dst 0 a b ∧ In0 P b ∧ T.1 (a_p b) = 125
  | 0, a, y, b, hp, hi, h => by cases h
  | f + 1, a, y, b, hp, hi, h => by
    rw [zStats] at h
    split at h
    · next q =>
      cases h
      exact ⟨⟨Nat.le_refl _, hp, Nat.le_refl _, Pre.refl _, List.prefix_refl _, Nat.le_refl _, rfl, rfl, rfl, rfl, List.prefix_refl _, Nat.le_refl _⟩, hi, q⟩
    · rw [pb_inr] at h
      obtain ⟨_, a1, h1, h2⟩ := h
      obtain ⟨d1, i1⟩ := D_stat hP hb hp hi h1
      obtain ⟨d2, i2, q2⟩ := D_stats hP hb f a1 y b d1.2.1 i1 h2
      exact ⟨d1.trans d2, i2, q2⟩
theorem D_blk (hP : PT_ T P) : ∀ n, SubB P (zBlk T n)
  | 0 => fun a y b hp hi h => by cases h
  | n + 1 => fun a y b hp hi h => by
    rw [zBlk, it_l, pb_inr] at h
    obtain ⟨c1, _, a1, h1, h⟩ := h
    have d1 := Dst_N (a := aR a (a_r a + 1)) hp h1
    have i1 := In0_N (a := aR a (a_r a + 1)) h1 hi
    obtain ⟨-, e1⟩ := zN_inr.mp h1
    have e1 : a1 = aP (aR a (a_r a + 1)) (a_p a + 1) := congrArg Prod.snd e1
    rw [pb_inr] at h
    obtain ⟨_, a2, h2, h⟩ := h
    obtain ⟨d2, i2, q2⟩ := D_stats hP (D_blk hP n) 801 a1 _ a2 d1.2.1 i1 h2
    rw [pb_inr] at h
    obtain ⟨_, a3, h3, h⟩ := h
    have d3 := Dst_N (a := aR (aK a2 (a_k a1)) (a_r a2 - 1)) d2.2.1 h3
    obtain ⟨-, e3⟩ := zN_inr.mp h3
    have e3 : a3 = aP (aR (aK a2 (a_k a1)) (a_r a2 - 1)) (a_p a2 + 1) := congrArg Prod.snd e3
    cases h
    obtain ⟨A1, A2, A3, A4, A5, A6, A7, A8, A9, A10, A11, A12⟩ := d1
    obtain ⟨B1, B2, B3, B4, B5, B6, B7, B8, B9, B10, B11, B12⟩ := d2
    obtain ⟨C1, C2, C3, C4, C5, C6, C7, C8, C9, C10, C11, C12⟩ := d3
    have k1 : a_k a1 = a_k a := by rw [e1]; rfl
    have A1 : a_p a + 1 ≤ a_p a1 := A1
    have A3 : zL a1 + a_p a + 1 ≤ zL a + a_p a1 := A3
    have A12 : 9 * (a_c a1).length + a_p a + 1 ≤ 9 * (a_c a).length + a_p a1 := A12
    have A6 : a_m a ≤ a_m a1 := A6
    have A10 : a_r a1 = a_r a + 1 := A10
    have C1 : a_p a2 + 1 ≤ a_p b := C1
    have C3 : zL b + a_p a2 + 1 ≤ zL a2 + a_p b := C3
    have C12 : 9 * (a_c b).length + a_p a2 + 1 ≤ 9 * (a_c a2).length + a_p b := C12
    have C10 : a_r b = a_r a2 - 1 := C10
    have C6 : a_m a2 ≤ a_m b := C6
    have kb : a_k b = a_k a := by rw [e3]; exact k1
    refine ⟨⟨by omega, C2, by omega, A4.trans (B4.trans C4), by rw [kb]; exact List.prefix_refl _, by omega, C7.trans (B7.trans A7), C8.trans (B8.trans A8), C9.trans (B9.trans A9), by omega, A11.trans (B11.trans C11), by omega⟩, ⟨?_, ?_, ?_⟩, kb⟩
    · rw [e3]; exact i2.1
    · rw [e3]; exact i2.2.1
    · obtain ⟨g1, g2, g3, g4⟩ := hi.2.2
      obtain ⟨k1, k2, k3, k4⟩ := i2.2.2
      have mb : a_m b = a_m a2 := by rw [e3]; rfl
      unfold KB
      rw [kb, mb]
      exact ⟨by omega, k2, fun e he => by have := g3 e he; omega, g4⟩
end
