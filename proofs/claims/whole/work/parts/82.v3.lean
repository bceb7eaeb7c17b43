section
variable {T : zT} {a b : zA} {y t : Int32} {sub : zA → zR}
theorem eqx_c {p : Nat} (h : eqx (aP (aO a (a_o a + 1)) p) b) : eqx a (aO b (a_o b - 1)) := by
  obtain ⟨h1, h2, h3, h4, h5, h6, h7, h8, h9⟩ := h
  have h8 : a_o b = a_o a + 1 := h8
  exact ⟨h1, h2, h3, h4, h5, h6, h7, by show a_o b - 1 = a_o a; omega, h9⟩
theorem zL_def : zL a = (a_i a).length := rfl
theorem nW_E {b a1 : zA} {x z : Nat} (hw : (b.2.2.1).1 = 0) (hi : ∃ e, a_i b = a_i a1 ++ [e]) (k : zL a1 + 1 + x ≤ z) : nW b + x ≤ z := by
  obtain ⟨e, hi⟩ := hi
  rw [wN_0 hw, zL_def, hi, List.length_append]
  exact k
theorem nW_le0 {b : zA} {x z : Nat} (h : (b.2.2.1).1 = 0) (k : zL b + x ≤ z) : nW b + x ≤ z := by rw [wN_0 h]; exact k
theorem D_args {ps : List Int32} (hs : SubD sub) : ∀ (f i : Nat) (a : zA) (y : Int32) (b : zA), a_p a ≤ 800 → zArgs T sub ps f i a = .inr (y, b) → Dx (zL a) a b ∧ (b.2.2.1).1 = 0 ∧ T.1 (a_p b) = 41
  | 0, i, a, y, b, hp, h => by cases h
  | f + 1, i, a, y, b, hp, h => by
    rw [zArgs, pb_inr] at h
    obtain ⟨t, a1, h1, h2⟩ := h
    obtain ⟨d1, w1⟩ := hs a t a1 hp h1
    rw [it_l, it_l] at h2
    obtain ⟨c1, c2, h3⟩ := h2
    by_cases q : T.1 (a_p a1) = 44
    · rw [if_pos q, pb_inr] at h3
      obtain ⟨_, a2, h4, h5⟩ := h3
      obtain ⟨n1, e1⟩ := zN_inr.mp h4
      cases e1
      obtain ⟨d2, w2, k2⟩ := D_args hs f (i + 1) _ y b (by show a_p a1 + 1 ≤ 800; have := d1.2.2.1; omega) h5
      refine ⟨?_, w2, k2⟩
      have e0 := wN_0 w1
      obtain ⟨g1, g2, g3, g4⟩ := d1
      obtain ⟨k1, k2, k3, k4⟩ := d2
      have k2 : a_p a1 + 1 < a_p b := k2
      have k4 : nW b + (a_p a1 + 1) ≤ zL a1 + a_p b := k4
      exact ⟨g1.trans k1, by omega, k3, by omega⟩
    · rw [if_neg q] at h3
      cases h3
      exact ⟨d1, w1, c1.resolve_left q⟩
theorem D_call (hs : SubD sub) (hp : a_p a ≤ 800) (hw : (a.2.2.1).1 = 0) (h : zCall T sub a = .inr (y, b)) : Dx (zL a) a b ∧ (b.2.2.1).1 = 0 ∧ a_s b = 4 := by
  unfold zCall at h
  rw [it_r, pb_inr] at h
  obtain ⟨c0, _, a1, h1, h2⟩ := h
  obtain ⟨n1, e1⟩ := zN_inr.mp h1
  cases e1
  rw [pb_inr] at h2
  obtain ⟨_, a2, h3, h4⟩ := h2
  obtain ⟨c1, n2, e2⟩ := zOpens_inr.mp h3
  cases e2
  rw [pb_inr] at h4
  obtain ⟨n, a3, h5, h6⟩ := h4
  have n2 : a_p a + 1 ≠ 800 := n2
  have key : eqx (aP (aO a (a_o a + 1)) (a_p a + 2)) a3 ∧ a_p a + 2 ≤ a_p a3 ∧ a_p a3 ≤ 800 ∧ zL a3 + (a_p a + 2) ≤ zL a + a_p a3 ∧ (a3.2.2.1).1 = 0 := by
    by_cases q : T.1 (a_p a + 1 + 1) = 41
    · have h5 : (.inr (0, aP (aO (aP a (a_p a + 1)) (a_o a + 1)) (a_p a + 1 + 1)) : zR) = .inr (n, a3) := (if_pos q).symm.trans h5
      cases h5
      exact ⟨eqx.refl _, Nat.le_refl _, by show a_p a + 2 ≤ 800; omega, Nat.le_refl _, hw⟩
    · have h5 := (if_neg q).symm.trans h5
      obtain ⟨d2, w2, -⟩ := D_args hs 801 0 _ n a3 (by show a_p a + 2 ≤ 800; omega) h5
      have e0 := wN_0 w2
      obtain ⟨k1, k2, k3, k4⟩ := d2
      have k2 : a_p a + 2 < a_p a3 := k2
      have k4 : nW a3 + (a_p a + 2) ≤ zL a + a_p a3 := k4
      exact ⟨k1, by omega, k3, by omega, w2⟩
  obtain ⟨g1, g2, g3, g4, g5⟩ := key
  rw [it_l, pb_inr] at h6
  obtain ⟨c3, _, a4, h7, h8⟩ := h6
  obtain ⟨n3, e3⟩ := zN_inr.mp h7
  cases e3
  have n3 : a_p a3 ≠ 800 := n3
  by_cases q : pFind (T.2.1 (a_p a)) (a_q a) < 12
  · rw [if_pos q] at h8
    cases h8
    refine ⟨⟨eqx_c g1, by show a_p a < a_p a3 + 1; omega, by show a_p a3 + 1 ≤ 800; omega, ?_⟩, g5, rfl⟩
    refine nW_E (a1 := a3) g5 ⟨_, rfl⟩ ?_
    show zL a3 + 1 + a_p a ≤ zL a + (a_p a3 + 1)
    omega
  · rw [if_neg q] at h8
    cases h8
    refine ⟨⟨eqx_c g1, by show a_p a < a_p a3 + 1; omega, by show a_p a3 + 1 ≤ 800; omega, ?_⟩, g5, rfl⟩
    refine nW_E (a1 := a3) g5 ⟨_, rfl⟩ ?_
    show zL a3 + 1 + a_p a ≤ zL a + (a_p a3 + 1)
    omega
theorem D_new (hs : SubD sub) (hp : a_p a ≤ 800) (hw : (a.2.2.1).1 = 0) (h : zNew T sub a = .inr (y, b)) : Dx (zL a) a b ∧ (b.2.2.1).1 = 0 ∧ a_s b = 0 := by
  unfold zNew at h
  rw [pb_inr] at h
  obtain ⟨_, a1, h1, h2⟩ := h
  obtain ⟨n1, e1⟩ := zN_inr.mp h1
  cases e1
  rw [it_l, pb_inr] at h2
  obtain ⟨c1, _, a2, h3, h4⟩ := h2
  obtain ⟨n2, e2⟩ := zN_inr.mp h3
  cases e2
  have n2 : a_p a + 1 ≠ 800 := n2
  by_cases q : T.1 (a_p a + 2) = 40 ∧ tV T (a_p a + 1) < 13
  · have h4 := (if_pos q).symm.trans h4
    rw [pb_inr] at h4
    obtain ⟨_, a3, h5, h6⟩ := h4
    obtain ⟨c2, n3, e3⟩ := zOpens_inr.mp h5
    cases e3
    have n3 : a_p a + 2 ≠ 800 := n3
    rw [it_l, pb_inr] at h6
    obtain ⟨c3, _, a4, h7, h8⟩ := h6
    obtain ⟨n4, e4⟩ := zN_inr.mp h7
    cases e4
    have n4 : a_p a + 3 ≠ 800 := n4
    cases h8
    refine ⟨⟨⟨rfl, rfl, rfl, rfl, rfl, rfl, rfl, by show a_o a + 1 - 1 = a_o a; omega, rfl⟩, by show a_p a < a_p a + 1 + 1 + 1 + 1; omega, by show a_p a + 1 + 1 + 1 + 1 ≤ 800; omega, ?_⟩, hw, rfl⟩
    refine nW_E (a1 := a) hw ⟨_, rfl⟩ ?_
    show zL a + 1 + a_p a ≤ zL a + (a_p a + 1 + 1 + 1 + 1)
    omega
  · have h4 := (if_neg q).symm.trans h4
    rw [pb_inr] at h4
    obtain ⟨_, a3, h5, h6⟩ := h4
    obtain ⟨c2, n3, e3⟩ := zOpens_inr.mp h5
    cases e3
    have n3 : a_p a + 2 ≠ 800 := n3
    rw [pb_inr] at h6
    obtain ⟨u, a4, h7, h8⟩ := h6
    obtain ⟨d1, w1⟩ := hs _ u a4 (by show a_p a + 1 + 1 + 1 ≤ 800; omega) h7
    rw [it_l, it_l, pb_inr] at h8
    obtain ⟨c3, c4, _, a5, h9, h10⟩ := h8
    obtain ⟨n5, e5⟩ := zN_inr.mp h9
    cases e5
    cases h10
    have n5 : a_p a4 ≠ 800 := n5
    have e0 := wN_0 w1
    obtain ⟨g1, g2, g3, g4⟩ := d1
    have g2 : a_p a + 1 + 1 + 1 < a_p a4 := g2
    have g4 : nW a4 + (a_p a + 1 + 1 + 1) ≤ zL a + a_p a4 := g4
    refine ⟨⟨eqx_c g1, by show a_p a < a_p a4 + 1; omega, by show a_p a4 + 1 ≤ 800; omega, ?_⟩, w1, rfl⟩
    refine nW_E (a1 := a4) w1 ⟨_, rfl⟩ ?_
    show zL a4 + 1 + a_p a ≤ zL a + (a_p a4 + 1)
    omega
theorem D_num {p0 : Nat} {v : Int32} (hp : a_p a ≤ 800) (hw : (a.2.2.1).1 = 0) (h : zNum T p0 v a = .inr (y, b)) : Dx (zL a) a b ∧ (b.2.2.1).1 = 0 ∧ a_s b = a_s a := by
  unfold zNum at h
  rw [pb_inr] at h
  obtain ⟨_, a1, h1, h2⟩ := h
  obtain ⟨n1, e1⟩ := zN_inr.mp h1
  cases e1
  cases h2
  have n1 : a_p a ≠ 800 := n1
  refine ⟨⟨eqx.refl _, by show a_p a < a_p a + 1; omega, by show a_p a + 1 ≤ 800; omega, ?_⟩, hw, rfl⟩
  refine nW_E (a1 := a) hw ⟨_, rfl⟩ ?_
  show zL a + 1 + a_p a ≤ zL a + (a_p a + 1)
  omega
/-- what waits, and the shape -/
def wOk (a : zA) : Prop := ((a.2.2.1).1 = 0 ∧ (a_s a = 0 ∨ a_s a = 4)) ∨ ((a.2.2.1).1 = 5 ∧ a_s a = 1) ∨ ((a.2.2.1).1 = 15 ∧ a_s a = 2 ∧ (a.2.2.1).2.1 = 0) ∨ ((a.2.2.1).1 = 17 ∧ a_s a = 3)
theorem wN_1 {n : Nat} (h : (b.2.2.1).1 = n) (hn : n = 5 ∨ n = 15 ∨ n = 17) : nW b = zL b + 1 := by
  unfold nW wN
  rw [show a_w b = b.2.2.1 from rfl, h, if_pos hn]
theorem D_fst (hs : SubD sub) (hp : a_p a ≤ 800) (hw : (a.2.2.1).1 = 0) (hs0 : a_s a = 0) (h : zFst T sub a = .inr (y, b)) : Dx (zL a) a b ∧ wOk b := by
  unfold zFst at h
  by_cases q1 : T.1 (a_p a) = 4
  · rw [if_pos q1] at h
    obtain ⟨h1, h2, h3⟩ := D_num hp hw h
    exact ⟨h1, Or.inl ⟨h2, Or.inl (h3.trans hs0)⟩⟩
  rw [if_neg q1] at h
  by_cases q2 : T.1 (a_p a) = 45
  · rw [if_pos q2, pb_inr] at h
    obtain ⟨_, a1, h1, h2⟩ := h
    obtain ⟨n1, e1⟩ := zN_inr.mp h1
    cases e1
    rw [it_l] at h2
    have n1 : a_p a ≠ 800 := n1
    obtain ⟨h1, h2, h3⟩ := D_num (a := aP a (a_p a + 1)) (by show a_p a + 1 ≤ 800; omega) hw h2.2
    obtain ⟨k1, k2, k3, k4⟩ := h1
    have k2 : a_p a + 1 < a_p b := k2
    have k4 : nW b + (a_p a + 1) ≤ zL a + a_p b := k4
    exact ⟨⟨k1, by omega, k3, by omega⟩, Or.inl ⟨h2, Or.inl (h3.trans hs0)⟩⟩
  rw [if_neg q2] at h
  by_cases q3 : T.1 (a_p a) = 211
  · rw [if_pos q3, pb_inr] at h
    obtain ⟨_, a1, h1, h2⟩ := h
    obtain ⟨n1, e1⟩ := zN_inr.mp h1
    cases e1
    cases h2
    have n1 : a_p a ≠ 800 := n1
    refine ⟨⟨eqx.refl _, by show a_p a < a_p a + 1; omega, by show a_p a + 1 ≤ 800; omega, ?_⟩, Or.inl ⟨hw, Or.inl hs0⟩⟩
    refine nW_E (a1 := a) hw ⟨_, rfl⟩ ?_
    show zL a + 1 + a_p a ≤ zL a + (a_p a + 1)
    omega
  rw [if_neg q3] at h
  by_cases q4 : T.1 (a_p a) = 210
  · rw [if_pos q4] at h
    obtain ⟨h1, h2, h3⟩ := D_new hs hp hw h
    exact ⟨h1, Or.inl ⟨h2, Or.inl h3⟩⟩
  rw [if_neg q4] at h
  by_cases q5 : T.1 (a_p a) = 40
  · rw [if_pos q5, pb_inr] at h
    obtain ⟨_, a1, h1, h2⟩ := h
    obtain ⟨c1, n1, e1⟩ := zOpens_inr.mp h1
    cases e1
    have n1 : a_p a ≠ 800 := n1
    rw [pb_inr] at h2
    obtain ⟨u, a2, h3, h4⟩ := h2
    obtain ⟨d1, w1⟩ := hs _ u a2 (by show a_p a + 1 ≤ 800; omega) h3
    rw [it_l, pb_inr] at h4
    obtain ⟨c2, _, a3, h5, h6⟩ := h4
    obtain ⟨n2, e2⟩ := zN_inr.mp h5
    cases e2
    cases h6
    have n2 : a_p a2 ≠ 800 := n2
    have e0 := wN_0 w1
    obtain ⟨k1, k2, k3, k4⟩ := d1
    have k2 : a_p a + 1 < a_p a2 := k2
    have k4 : nW a2 + (a_p a + 1) ≤ zL a + a_p a2 := k4
    refine ⟨⟨eqx_c (a := a) k1, by show a_p a < a_p a2 + 1; omega, by show a_p a2 + 1 ≤ 800; omega, ?_⟩, Or.inl ⟨w1, Or.inl rfl⟩⟩
    refine nW_le0 w1 ?_
    show zL a2 + a_p a ≤ zL a + (a_p a2 + 1)
    omega
  rw [if_neg q5] at h
  rw [it_l] at h
  obtain ⟨q6, h⟩ := h
  by_cases q7 : T.1 (a_p a + 1) = 40
  · have h := (if_pos q7).symm.trans h
    obtain ⟨h1, h2, h3⟩ := D_call hs hp hw h
    exact ⟨h1, Or.inl ⟨h2, Or.inr h3⟩⟩
  · have h := (if_neg q7).symm.trans h
    revert h
    cases hk : kFind (T.2.1 (a_p a)) (a_k a) with
    | none => intro h; cases h
    | some e =>
      intro h
      have h : pb (zN a) (fun _ a1 => .inr (e.1, aW (aS a1 1) (5, Int32.ofNat e.2, T.2.2.2 (a_p a), e.1))) = .inr (y, b) := h
      rw [pb_inr] at h
      obtain ⟨_, a1, h1, h2⟩ := h
      obtain ⟨n1, e1⟩ := zN_inr.mp h1
      cases e1
      cases h2
      have n1 : a_p a ≠ 800 := n1
      refine ⟨⟨eqx.refl _, by show a_p a < a_p a + 1; omega, by show a_p a + 1 ≤ 800; omega, ?_⟩, Or.inr (Or.inl ⟨rfl, rfl⟩)⟩
      rw [wN_1 (b := aW _ _) (n := 5) rfl (Or.inl rfl)]
      show zL a + 1 + a_p a ≤ zL a + (a_p a + 1)
      omega
theorem D_first (hs : SubD sub) (hp : a_p a ≤ 800) (h : zFirst T sub a = .inr (y, b)) : Dx (zL a) a b ∧ wOk b := D_fst (a := aW (aS a 0) (0, 0, 0, 0)) hs hp rfl rfl h
theorem D_idx (hs : SubD sub) (hp : a_p a ≤ 800) (h : zIdx T sub t a = .inr (y, b)) : Dx (nW a) a b ∧ wOk b := by
  unfold zIdx at h
  rw [pb_inr] at h
  obtain ⟨_, a1, h1, h2⟩ := h
  obtain ⟨c1, n1, e1⟩ := zOpens_inr.mp h1
  cases e1
  rw [p_reads] at n1
  rw [pb_inr] at h2
  obtain ⟨u, a2, h3, h4⟩ := h2
  obtain ⟨d1, w1⟩ := hs _ u a2 (by show a_p (zReads a) + 1 ≤ 800; rw [p_reads]; omega) h3
  rw [it_l, it_l, pb_inr] at h4
  obtain ⟨c2, c3, _, a3, h5, h6⟩ := h4
  obtain ⟨n2, e2⟩ := zN_inr.mp h5
  cases e2
  cases h6
  have n2 : a_p a2 ≠ 800 := n2
  have e0 := wN_0 w1
  obtain ⟨k1, k2, k3, k4⟩ := d1
  have k2 : a_p (zReads a) + 1 < a_p a2 := k2
  have k4 : nW a2 + (a_p (zReads a) + 1) ≤ zL (zReads a) + a_p a2 := k4
  rw [p_reads] at k2 k4
  rw [nW_reads.1] at k4
  refine ⟨⟨eqx_reads.trans (eqx_c k1), by show a_p a < a_p a2 + 1; omega, by show a_p a2 + 1 ≤ 800; omega, ?_⟩, Or.inr (Or.inr (Or.inl ⟨rfl, rfl, rfl⟩))⟩
  rw [wN_1 (b := aW _ _) (n := 15) rfl (Or.inr (Or.inl rfl))]
  show zL a2 + 1 + a_p a ≤ nW a + (a_p a2 + 1)
  omega
theorem D_mem (hp : a_p a ≤ 800) (h : zMem T t a = .inr (y, b)) : Dx (nW a) a b ∧ wOk b := by
  unfold zMem at h
  rw [pb_inr] at h
  obtain ⟨_, a1, h1, h2⟩ := h
  obtain ⟨n1, e1⟩ := zN_inr.mp h1
  cases e1
  rw [p_reads] at n1
  have hP : a_p (aP (zReads a) (a_p (zReads a) + 1)) = a_p a + 1 := by show a_p (zReads a) + 1 = _; rw [p_reads]
  by_cases q : T.1 (a_p (aP (zReads a) (a_p (zReads a) + 1))) = 214
  · rw [if_pos q, it_l, pb_inr] at h2
    obtain ⟨c1, _, a2, h3, h4⟩ := h2
    obtain ⟨n2, e2⟩ := zN_inr.mp h3
    cases e2
    cases h4
    have n2 : a_p (zReads a) + 1 ≠ 800 := n2
    rw [p_reads] at n2
    refine ⟨⟨eqx_reads, ?_, ?_, ?_⟩, Or.inl ⟨?_, Or.inl rfl⟩⟩
    · show a_p a < a_p (zReads a) + 1 + 1; rw [p_reads]; omega
    · show a_p (zReads a) + 1 + 1 ≤ 800; rw [p_reads]; omega
    · refine nW_E (a1 := (zReads a)) (by show ((zReads a).2.2.1).1 = 0; rw [w_reads]) ⟨_, rfl⟩ ?_
      show zL (zReads a) + 1 + a_p a ≤ nW a + (a_p (zReads a) + 1 + 1)
      rw [nW_reads.1, p_reads]; omega
    · show ((zReads a).2.2.1).1 = 0; rw [w_reads]
  · rw [if_neg q, it_l, it_r, it_l, pb_inr] at h2
    obtain ⟨c1, c2, c3, _, a2, h3, h4⟩ := h2
    obtain ⟨n2, e2⟩ := zN_inr.mp h3
    cases e2
    cases h4
    have n2 : a_p (zReads a) + 1 ≠ 800 := n2
    rw [p_reads] at n2
    refine ⟨⟨eqx_reads, ?_, ?_, ?_⟩, Or.inr (Or.inr (Or.inr ⟨rfl, rfl⟩))⟩
    · show a_p a < a_p (zReads a) + 1 + 1; rw [p_reads]; omega
    · show a_p (zReads a) + 1 + 1 ≤ 800; rw [p_reads]; omega
    · rw [wN_1 (b := aW _ _) (n := 17) rfl (Or.inr (Or.inr rfl))]
      show zL (zReads a) + 1 + a_p a ≤ nW a + (a_p (zReads a) + 1 + 1)
      rw [nW_reads.1, p_reads]; omega
/-- behind as and is -/
theorem zAskT_inr {k : Int32 → zA → zR} {x : Int32 × zA} (h : zAskT T t a k = .inr x) : T.1 (a_p a) = 5 ∧ a_p a ≠ 800 ∧
    ((tV T (a_p a) ≠ 36 ∧ T.1 (a_p a + 1) = 91 ∧ a_p a + 1 ≠ 800 ∧ T.1 (a_p a + 2) = 93 ∧ a_p a + 2 ≠ 800 ∧ cAsk t (18 + tV T (a_p a)) = 1 ∧ k (18 + tV T (a_p a)) (aP a (a_p a + 3)) = .inr x) ∨
     (¬ (tV T (a_p a) ≠ 36 ∧ T.1 (a_p a + 1) = 91) ∧ cAsk t (tV T (a_p a)) = 1 ∧ k (tV T (a_p a)) (aP a (a_p a + 1)) = .inr x)) := by
  unfold zAskT at h
  rw [it_l] at h
  obtain ⟨c1, h⟩ := h
  by_cases q : tV T (a_p a) ≠ 36 ∧ T.1 (a_p a + 1) = 91
  · rw [if_pos q, pb_inr] at h
    obtain ⟨_, a1, h1, h2⟩ := h
    obtain ⟨n1, e1⟩ := zN_inr.mp h1
    cases e1
    rw [pb_inr] at h2
    obtain ⟨_, a2, h3, h4⟩ := h2
    obtain ⟨n2, e2⟩ := zN_inr.mp h3
    cases e2
    rw [it_l, it_l, pb_inr] at h4
    obtain ⟨c2, c3, _, a3, h5, h6⟩ := h4
    obtain ⟨n3, e3⟩ := zN_inr.mp h5
    cases e3
    exact ⟨c1, n1, Or.inl ⟨q.1, q.2, n2, c2, n3, c3, h6⟩⟩
  · rw [if_neg q, it_l, pb_inr] at h
    obtain ⟨c2, _, a1, h1, h2⟩ := h
    obtain ⟨n1, e1⟩ := zN_inr.mp h1
    cases e1
    exact ⟨c1, n1, Or.inr ⟨q, c2, h2⟩⟩
theorem D_ask (hp : a_p a ≤ 800) (h : zAsk T t a = .inr (y, b)) : Dx (nW a) a b ∧ wOk b := by
  unfold zAsk at h
  rw [pb_inr] at h
  obtain ⟨_, a1, h1, h2⟩ := h
  obtain ⟨n1, e1⟩ := zN_inr.mp h1
  cases e1
  rw [p_reads] at n1
  have key : ∀ (p : Nat) (u : Int32) , a_p a + 1 < p → p ≤ 800 → (if T.1 (a_p a) = 213 then .inr (u, aS (zE (aP (zReads a) p) 13 u 0 u (T.2.2.2 (a_p a))) 0) else .inr (36, aS (zE (aP (zReads a) p) 14 u 0 36 (T.2.2.2 (a_p a))) 0) : zR) = .inr (y, b) → Dx (nW a) a b ∧ wOk b := by
    intro p u hp1 hp2 h
    have hh : ∀ op arg ty, Dx (nW a) a (aS (zE (aP (zReads a) p) op arg 0 ty (T.2.2.2 (a_p a))) 0) ∧ wOk (aS (zE (aP (zReads a) p) op arg 0 ty (T.2.2.2 (a_p a))) 0) := by
      intro op arg ty
      refine ⟨⟨eqx_reads, ?_, ?_, ?_⟩, Or.inl ⟨?_, Or.inl rfl⟩⟩
      · show a_p a < p; omega
      · show p ≤ 800; omega
      · refine nW_E (a1 := (zReads a)) (by show ((zReads a).2.2.1).1 = 0; rw [w_reads]) ⟨_, rfl⟩ ?_
        show zL (zReads a) + 1 + a_p a ≤ nW a + p
        rw [nW_reads.1]; omega
      · show ((zReads a).2.2.1).1 = 0; rw [w_reads]
    split at h <;> cases h <;> exact hh _ _ _
  obtain ⟨c1, n2, h3⟩ := zAskT_inr h2
  have n2 : a_p (zReads a) + 1 ≠ 800 := n2
  rw [p_reads] at n2
  rcases h3 with ⟨g1, g2, g3, g4, g5, g6, g7⟩ | ⟨g1, g2, g3⟩
  · have g3 : a_p (zReads a) + 1 + 1 ≠ 800 := g3
    have g5 : a_p (zReads a) + 1 + 2 ≠ 800 := g5
    rw [p_reads] at g3 g5
    refine key (a_p (zReads a) + 1 + 3) _ ?_ ?_ g7
    · rw [p_reads]; omega
    · rw [p_reads]; omega
  · refine key (a_p (zReads a) + 1 + 1) _ ?_ ?_ g3
    · rw [p_reads]; omega
    · rw [p_reads]; omega
theorem D_UL (hs : SubD sub) : ∀ (f : Nat) (t : Int32) (a : zA) (y : Int32) (b : zA), a_p a ≤ 800 → wOk a → zUL T sub f t a = .inr (y, b) → (eqx a b ∧ a_p a ≤ a_p b ∧ a_p b ≤ 800 ∧ nW b + a_p a ≤ nW a + a_p b) ∧ wOk b
  | 0, t, a, y, b, hp, hw, h => by cases h
  | f + 1, t, a, y, b, hp, hw, h => by
    have go : ∀ {y1 a1}, Dx (nW a) a a1 ∧ wOk a1 → zUL T sub f y1 a1 = .inr (y, b) → (eqx a b ∧ a_p a ≤ a_p b ∧ a_p b ≤ 800 ∧ nW b + a_p a ≤ nW a + a_p b) ∧ wOk b := by
      intro y1 a1 hd h
      obtain ⟨⟨d1, d2, d3, d4⟩, w1⟩ := hd
      obtain ⟨⟨k1, k2, k3, k4⟩, w2⟩ := D_UL hs f y1 a1 y b d3 w1 h
      exact ⟨⟨d1.trans k1, by omega, k3, by omega⟩, w2⟩
    rw [zUL] at h
    by_cases q1 : T.1 (a_p a) = 91
    · rw [if_pos q1, pb_inr] at h
      obtain ⟨t1, a1, h1, h2⟩ := h
      exact go (D_idx hs hp h1) h2
    rw [if_neg q1] at h
    by_cases q2 : T.1 (a_p a) = 46
    · rw [if_pos q2, pb_inr] at h
      obtain ⟨t1, a1, h1, h2⟩ := h
      exact go (D_mem hp h1) h2
    rw [if_neg q2] at h
    by_cases q3 : T.1 (a_p a) = 213 ∨ T.1 (a_p a) = 212
    · rw [if_pos q3, pb_inr] at h
      obtain ⟨t1, a1, h1, h2⟩ := h
      exact go (D_ask hp h1) h2
    rw [if_neg q3] at h
    cases h
    exact ⟨⟨eqx.refl _, Nat.le_refl _, hp, Nat.le_refl _⟩, hw⟩
theorem D_unit (hs : SubD sub) (hp : a_p a ≤ 800) (h : zUnit T sub a = .inr (y, b)) : Dx (zL a) a b ∧ wOk b := by
  unfold zUnit at h
  rw [pb_inr] at h
  obtain ⟨t1, a1, h1, h2⟩ := h
  obtain ⟨⟨d1, d2, d3, d4⟩, w1⟩ := D_first hs hp h1
  obtain ⟨⟨k1, k2, k3, k4⟩, w2⟩ := D_UL hs _ _ _ _ _ d3 w1 h2
  exact ⟨⟨d1.trans k1, by omega, k3, by omega⟩, w2⟩
theorem D_UV (hs : SubD sub) (hp : a_p a ≤ 800) (h : zUV T sub a = .inr (y, b)) : Dx (zL a) a b ∧ (b.2.2.1).1 = 0 := by
  unfold zUV at h
  rw [pb_inr] at h
  obtain ⟨t1, a1, h1, h2⟩ := h
  obtain ⟨⟨d1, d2, d3, d4⟩, w1⟩ := D_unit hs hp h1
  cases h2
  refine ⟨⟨d1.trans eqx_reads, by rw [p_reads]; exact d2, by rw [p_reads]; exact d3, ?_⟩, by rw [w_reads]⟩
  rw [nW_reads.2, p_reads]; exact d4
theorem D_bin {a a1 b : zA} {op : Nat} {arg ty pl : Int32} (hn : a_p a + 1 ≤ a_p a1) (h0 : a_p a ≤ 800) (e : eqx a a1) (hp : a_p a1 ≤ 800) (hl : zL a1 + (a_p a + 1) ≤ zL a + a_p a1) (hw : (a1.2.2.1).1 = 0) (hb : b = zE a1 op arg 0 ty pl) : Dx (zL a) a b ∧ (b.2.2.1).1 = 0 := by
  subst hb
  refine ⟨⟨e, hn, hp, ?_⟩, hw⟩
  refine nW_E (a1 := a1) hw ⟨_, rfl⟩ ?_
  show zL a1 + 1 + a_p a ≤ zL a + a_p a1
  omega
theorem D_PL (hs : SubD sub) : ∀ (f : Nat) (t : Int32) (a : zA) (y : Int32) (b : zA), a_p a ≤ 800 → (a.2.2.1).1 = 0 → zPL T sub f t a = .inr (y, b) → (eqx a b ∧ a_p a ≤ a_p b ∧ a_p b ≤ 800 ∧ nW b + a_p a ≤ zL a + a_p b) ∧ (b.2.2.1).1 = 0
  | 0, t, a, y, b, hp, hw, h => by cases h
  | f + 1, t, a, y, b, hp, hw, h => by
    rw [zPL] at h
    by_cases q1 : T.1 (a_p a) = 42
    · rw [if_pos q1, it_l, pb_inr] at h
      obtain ⟨c1, _, a1, h1, h2⟩ := h
      obtain ⟨n1, e1⟩ := zN_inr.mp h1
      cases e1
      rw [pb_inr] at h2
      obtain ⟨u, a2, h3, h4⟩ := h2
      rw [it_l] at h4
      obtain ⟨c2, h4⟩ := h4
      obtain ⟨⟨d1, d2, d3, d4⟩, w1⟩ := D_UV hs (by show a_p a + 1 ≤ 800; omega) h3
      have d2 : a_p a + 1 < a_p a2 := d2
      have d4 : nW a2 + (a_p a + 1) ≤ zL a + a_p a2 := d4
      rw [wN_0 w1] at d4
      obtain ⟨⟨k1, k2, k3, k4⟩, w2⟩ := D_PL hs f _ _ _ _ (by exact d3) (by exact w1) h4
      have k2 : a_p a2 ≤ a_p b := k2
      have k4 : nW b + a_p a2 ≤ zL (zE a2 9 0 0 36 (T.2.2.2 (a_p a))) + a_p b := k4
      rw [zL_E] at k4
      exact ⟨⟨eqx.trans (a := a) (b := a2) d1 k1, by omega, k3, by omega⟩, w2⟩
    · rw [if_neg q1] at h
      cases h
      exact ⟨⟨eqx.refl _, Nat.le_refl _, hp, by rw [wN_0 hw]; exact Nat.le_refl _⟩, hw⟩
theorem D_prod (hs : SubD sub) (hp : a_p a ≤ 800) (h : zProd T sub a = .inr (y, b)) : Dx (zL a) a b ∧ (b.2.2.1).1 = 0 := by
  unfold zProd at h
  rw [pb_inr] at h
  obtain ⟨t1, a1, h1, h2⟩ := h
  obtain ⟨⟨d1, d2, d3, d4⟩, w1⟩ := D_UV hs hp h1
  obtain ⟨⟨k1, k2, k3, k4⟩, w2⟩ := D_PL hs _ _ _ _ _ d3 w1 h2
  rw [wN_0 w1] at d4
  exact ⟨⟨d1.trans k1, by omega, k3, by omega⟩, w2⟩
theorem D_SL (hs : SubD sub) : ∀ (f : Nat) (t : Int32) (a : zA) (y : Int32) (b : zA), a_p a ≤ 800 → (a.2.2.1).1 = 0 → zSL T sub f t a = .inr (y, b) → (eqx a b ∧ a_p a ≤ a_p b ∧ a_p b ≤ 800 ∧ nW b + a_p a ≤ zL a + a_p b) ∧ (b.2.2.1).1 = 0
  | 0, t, a, y, b, hp, hw, h => by cases h
  | f + 1, t, a, y, b, hp, hw, h => by
    rw [zSL] at h
    by_cases q1 : T.1 (a_p a) = 43 ∨ T.1 (a_p a) = 45
    · rw [if_pos q1, it_l, pb_inr] at h
      obtain ⟨c1, _, a1, h1, h2⟩ := h
      obtain ⟨n1, e1⟩ := zN_inr.mp h1
      cases e1
      rw [pb_inr] at h2
      obtain ⟨u, a2, h3, h4⟩ := h2
      rw [it_l] at h4
      obtain ⟨c2, h4⟩ := h4
      obtain ⟨⟨d1, d2, d3, d4⟩, w1⟩ := D_prod hs (by show a_p a + 1 ≤ 800; omega) h3
      have d2 : a_p a + 1 < a_p a2 := d2
      have d4 : nW a2 + (a_p a + 1) ≤ zL a + a_p a2 := d4
      rw [wN_0 w1] at d4
      obtain ⟨⟨k1, k2, k3, k4⟩, w2⟩ := D_SL hs f _ _ _ _ (by exact d3) (by exact w1) h4
      have k2 : a_p a2 ≤ a_p b := k2
      have k4 : nW b + a_p a2 ≤ zL (zE a2 (if T.1 (a_p a) = 43 then 7 else 8) 0 0 36 (T.2.2.2 (a_p a))) + a_p b := k4
      rw [zL_E] at k4
      exact ⟨⟨eqx.trans (a := a) (b := a2) d1 k1, by omega, k3, by omega⟩, w2⟩
    · rw [if_neg q1] at h
      cases h
      exact ⟨⟨eqx.refl _, Nat.le_refl _, hp, by rw [wN_0 hw]; exact Nat.le_refl _⟩, hw⟩
theorem D_sum (hs : SubD sub) (hp : a_p a ≤ 800) (h : zSum T sub a = .inr (y, b)) : Dx (zL a) a b ∧ (b.2.2.1).1 = 0 := by
  unfold zSum at h
  rw [pb_inr] at h
  obtain ⟨t1, a1, h1, h2⟩ := h
  obtain ⟨⟨d1, d2, d3, d4⟩, w1⟩ := D_prod hs hp h1
  obtain ⟨⟨k1, k2, k3, k4⟩, w2⟩ := D_SL hs _ _ _ _ _ d3 w1 h2
  rw [wN_0 w1] at d4
  exact ⟨⟨d1.trans k1, by omega, k3, by omega⟩, w2⟩
theorem D_Ex (hs : SubD sub) (hp : a_p a ≤ 800) (h : zEx T sub a = .inr (y, b)) : Dx (zL a) a b ∧ (b.2.2.1).1 = 0 := by
  unfold zEx at h
  rw [pb_inr] at h
  obtain ⟨t1, a1, h1, h2⟩ := h
  have D1 := D_sum hs hp h1
  obtain ⟨⟨d1, d2, d3, d4⟩, w1⟩ := D1
  by_cases q : T.1 (a_p a1) = 1 ∨ T.1 (a_p a1) = 2 ∨ T.1 (a_p a1) = 60
  · rw [if_pos q, it_l, pb_inr] at h2
    obtain ⟨c1, _, a2, h3, h4⟩ := h2
    obtain ⟨n1, e1⟩ := zN_inr.mp h3
    cases e1
    rw [pb_inr] at h4
    obtain ⟨u, a3, h5, h6⟩ := h4
    rw [it_l] at h6
    obtain ⟨c2, h6⟩ := h6
    cases h6
    obtain ⟨⟨k1, k2, k3, k4⟩, w2⟩ := D_sum hs (by show a_p a1 + 1 ≤ 800; omega) h5
    have k2 : a_p a1 + 1 < a_p a3 := k2
    have k4 : nW a3 + (a_p a1 + 1) ≤ zL a1 + a_p a3 := k4
    rw [wN_0 w2] at k4
    rw [wN_0 w1] at d4
    exact D_bin (by omega) hp (d1.trans k1) k3 (by omega) w2 rfl
  · rw [if_neg q] at h2
    cases h2
    exact ⟨⟨d1, d2, d3, d4⟩, w1⟩
theorem D_X : ∀ n, SubD (zX_ T n)
  | 0 => fun a y b hp h => by cases h
  | n + 1 => fun a y b hp h => D_Ex (D_X n) hp h
theorem D_Exp (hp : a_p a ≤ 800) (h : zExp T a = .inr (y, b)) : Dx (zL a) a b ∧ (b.2.2.1).1 = 0 := D_X 11 a y b hp h
end
