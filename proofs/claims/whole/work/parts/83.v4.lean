section
/-! WHAT WAS READ STAYS: the items ahead -/
variable {T : zT} {a b c : zA} {y t : Int32} {sub : zA → zR}
def Pre (a b : zA) : Prop := a_i a <+: a_i b
theorem Pre.refl (a : zA) : Pre a a := List.prefix_refl _
theorem Pre.trans (h : Pre a b) (k : Pre b c) : Pre a c := List.IsPrefix.trans h k
theorem Pre_E {op : Nat} {arg ty pl : Int32} {tgt : Nat} : Pre a (zE a op arg tgt ty pl) := List.prefix_append _ _
theorem Pre_reads : Pre a (zReads a) := by
  unfold zReads
  split
  · exact Pre_E
  · exact Pre.refl a
def SubP (sub : zA → zR) : Prop := ∀ a y b, sub a = .inr (y, b) → Pre a b
theorem Pre_N {x : Int32 × zA} (h : zN a = .inr x) : Pre a x.2 := by
  obtain ⟨-, rfl⟩ := zN_inr.mp h; exact Pre.refl a
theorem Pre_opens {c : Int32} {x : Int32 × zA} (h : zOpens T c a = .inr x) : Pre a x.2 := by
  obtain ⟨-, -, rfl⟩ := zOpens_inr.mp h; exact Pre.refl a
theorem Pre_must {c : Int32} {x : Int32 × zA} (h : zMust T c a = .inr x) : Pre a x.2 := by
  obtain ⟨-, -, rfl⟩ := zMust_inr.mp h; exact Pre.refl a
theorem Pre_args {ps : List Int32} (hs : SubP sub) : ∀ (f i : Nat) (a : zA) (y : Int32) (b : zA), zArgs T sub ps f i a = .inr (y, b) → Pre a b
  | 0, i, a, y, b, h => by cases h
  | f + 1, i, a, y, b, h => by
    rw [zArgs, pb_inr] at h
    obtain ⟨t, a1, h1, h2⟩ := h
    rw [it_l, it_l] at h2
    obtain ⟨c1, c2, h3⟩ := h2
    by_cases q : T.1 (a_p a1) = 44
    · rw [if_pos q, pb_inr] at h3
      obtain ⟨_, a2, h4, h5⟩ := h3
      exact (hs _ _ _ h1).trans ((Pre_N h4).trans (Pre_args hs f (i + 1) _ y b h5))
    · rw [if_neg q] at h3
      cases h3
      exact hs _ _ _ h1
theorem Pre_call (hs : SubP sub) (h : zCall T sub a = .inr (y, b)) : Pre a b := by
  unfold zCall at h
  rw [it_r, pb_inr] at h
  obtain ⟨c0, _, a1, h1, h2⟩ := h
  rw [pb_inr] at h2
  obtain ⟨_, a2, h3, h4⟩ := h2
  rw [pb_inr] at h4
  obtain ⟨n, a3, h5, h6⟩ := h4
  have k3 : Pre a2 a3 := by
    by_cases q : T.1 (a_p a2) = 41
    · rw [if_pos q] at h5; cases h5; exact Pre.refl _
    · rw [if_neg q] at h5; exact Pre_args hs _ _ _ _ _ h5
  rw [it_l, pb_inr] at h6
  obtain ⟨c3, _, a4, h7, h8⟩ := h6
  have k4 : Pre a3 a4 := Pre_N h7
  refine (Pre_N h1).trans ((Pre_opens h3).trans (k3.trans (k4.trans ?_)))
  by_cases q : pFind (T.2.1 (a_p a)) (a_q a) < 12
  · rw [if_pos q] at h8; cases h8; exact Pre_E
  · rw [if_neg q] at h8; cases h8; exact Pre_E
theorem Pre_new (hs : SubP sub) (h : zNew T sub a = .inr (y, b)) : Pre a b := by
  unfold zNew at h
  rw [pb_inr] at h
  obtain ⟨_, a1, h1, h2⟩ := h
  rw [it_l, pb_inr] at h2
  obtain ⟨c1, _, a2, h3, h4⟩ := h2
  refine (Pre_N h1).trans ((Pre_N h3).trans ?_)
  split at h4
  · rw [pb_inr] at h4
    obtain ⟨_, a3, h5, h6⟩ := h4
    rw [it_l, pb_inr] at h6
    obtain ⟨c3, _, a4, h7, h8⟩ := h6
    have k : Pre a3 a4 := Pre_N h7
    cases h8
    exact (Pre_opens h5).trans (k.trans Pre_E)
  · rw [pb_inr] at h4
    obtain ⟨_, a3, h5, h6⟩ := h4
    rw [pb_inr] at h6
    obtain ⟨u, a4, h7, h8⟩ := h6
    rw [it_l, it_l, pb_inr] at h8
    obtain ⟨c3, c4, _, a5, h9, h10⟩ := h8
    have k : Pre a4 a5 := Pre_N h9
    cases h10
    exact (Pre_opens h5).trans ((hs _ _ _ h7).trans (k.trans Pre_E))
theorem Pre_num {p0 : Nat} {v : Int32} (h : zNum T p0 v a = .inr (y, b)) : Pre a b := by
  unfold zNum at h
  rw [pb_inr] at h
  obtain ⟨_, a1, h1, h2⟩ := h
  have k := Pre_N h1
  cases h2
  exact Pre_E.trans k
theorem Pre_fst (hs : SubP sub) (h : zFst T sub a = .inr (y, b)) : Pre a b := by
  unfold zFst at h
  split at h
  · exact Pre_num h
  split at h
  · rw [pb_inr] at h
    obtain ⟨_, a1, h1, h2⟩ := h
    rw [it_l] at h2
    exact (Pre_N h1).trans (Pre_num h2.2)
  split at h
  · rw [pb_inr] at h
    obtain ⟨_, a1, h1, h2⟩ := h
    have k := Pre_N h1
    cases h2
    exact Pre_E.trans k
  split at h
  · exact Pre_new hs h
  split at h
  · rw [pb_inr] at h
    obtain ⟨_, a1, h1, h2⟩ := h
    rw [pb_inr] at h2
    obtain ⟨u, a2, h3, h4⟩ := h2
    rw [it_l, pb_inr] at h4
    obtain ⟨c2, _, a3, h5, h6⟩ := h4
    have k : Pre a2 a3 := Pre_N h5
    cases h6
    exact (Pre_opens h1).trans ((hs _ _ _ h3).trans k)
  rw [it_l] at h
  obtain ⟨-, h⟩ := h
  split at h
  · exact Pre_call hs h
  · revert h
    cases kFind (T.2.1 (a_p a)) (a_k a) with
    | none => intro h; cases h
    | some e =>
      intro h
      have h : pb (zN a) (fun _ a1 => .inr (e.1, aW (aS a1 1) (5, Int32.ofNat e.2, T.2.2.2 (a_p a), e.1))) = .inr (y, b) := h
      rw [pb_inr] at h
      obtain ⟨_, a1, h1, h2⟩ := h
      have k := Pre_N h1
      cases h2
      exact k
theorem Pre_idx (hs : SubP sub) (h : zIdx T sub t a = .inr (y, b)) : Pre a b := by
  unfold zIdx at h
  rw [pb_inr] at h
  obtain ⟨_, a1, h1, h2⟩ := h
  rw [pb_inr] at h2
  obtain ⟨u, a2, h3, h4⟩ := h2
  rw [it_l, it_l, pb_inr] at h4
  obtain ⟨c2, c3, _, a3, h5, h6⟩ := h4
  have k : Pre a2 a3 := Pre_N h5
  cases h6
  exact Pre_reads.trans ((Pre_opens h1).trans ((hs _ _ _ h3).trans k))
theorem Pre_mem (h : zMem T t a = .inr (y, b)) : Pre a b := by
  unfold zMem at h
  rw [pb_inr] at h
  obtain ⟨_, a1, h1, h2⟩ := h
  refine Pre_reads.trans ((Pre_N h1).trans ?_)
  split at h2
  · rw [it_l, pb_inr] at h2
    obtain ⟨c1, _, a2, h3, h4⟩ := h2
    have k := Pre_N h3
    cases h4
    exact Pre_E.trans k
  · rw [it_l, it_r, it_l, pb_inr] at h2
    obtain ⟨c1, c2, c3, _, a2, h3, h4⟩ := h2
    have k := Pre_N h3
    cases h4
    exact k
theorem Pre_ask (h : zAsk T t a = .inr (y, b)) : Pre a b := by
  unfold zAsk at h
  rw [pb_inr] at h
  obtain ⟨_, a1, h1, h2⟩ := h
  refine Pre_reads.trans ((Pre_N h1).trans ?_)
  obtain ⟨-, -, h3⟩ := zAskT_inr h2
  rcases h3 with ⟨-, -, -, -, -, -, h3⟩ | ⟨-, -, h3⟩
  · split at h3 <;> cases h3 <;> exact Pre_E
  · split at h3 <;> cases h3 <;> exact Pre_E
theorem Pre_UL (hs : SubP sub) : ∀ (f : Nat) (t : Int32) (a : zA) (y : Int32) (b : zA), zUL T sub f t a = .inr (y, b) → Pre a b
  | 0, t, a, y, b, h => by cases h
  | f + 1, t, a, y, b, h => by
    rw [zUL] at h
    split at h
    · rw [pb_inr] at h
      obtain ⟨t1, a1, h1, h2⟩ := h
      exact (Pre_idx hs h1).trans (Pre_UL hs f _ _ _ _ h2)
    split at h
    · rw [pb_inr] at h
      obtain ⟨t1, a1, h1, h2⟩ := h
      exact (Pre_mem h1).trans (Pre_UL hs f _ _ _ _ h2)
    split at h
    · rw [pb_inr] at h
      obtain ⟨t1, a1, h1, h2⟩ := h
      exact (Pre_ask h1).trans (Pre_UL hs f _ _ _ _ h2)
    cases h
    exact Pre.refl _
theorem Pre_unit (hs : SubP sub) (h : zUnit T sub a = .inr (y, b)) : Pre a b := by
  unfold zUnit at h
  rw [pb_inr] at h
  obtain ⟨t1, a1, h1, h2⟩ := h
  exact (show Pre a a1 from Pre_fst (a := aW (aS a 0) (0, 0, 0, 0)) hs h1).trans (Pre_UL hs _ _ _ _ _ h2)
theorem Pre_UV (hs : SubP sub) (h : zUV T sub a = .inr (y, b)) : Pre a b := by
  unfold zUV at h
  rw [pb_inr] at h
  obtain ⟨t1, a1, h1, h2⟩ := h
  cases h2
  exact (Pre_unit hs h1).trans Pre_reads
theorem Pre_PL (hs : SubP sub) : ∀ (f : Nat) (t : Int32) (a : zA) (y : Int32) (b : zA), zPL T sub f t a = .inr (y, b) → Pre a b
  | 0, t, a, y, b, h => by cases h
  | f + 1, t, a, y, b, h => by
    rw [zPL] at h
    split at h
    · rw [it_l, pb_inr] at h
      obtain ⟨c1, _, a1, h1, h2⟩ := h
      rw [pb_inr] at h2
      obtain ⟨u, a2, h3, h4⟩ := h2
      rw [it_l] at h4
      exact (Pre_N h1).trans ((Pre_UV hs h3).trans (Pre_E.trans (Pre_PL hs f _ _ _ _ h4.2)))
    · cases h; exact Pre.refl _
theorem Pre_prod (hs : SubP sub) (h : zProd T sub a = .inr (y, b)) : Pre a b := by
  unfold zProd at h
  rw [pb_inr] at h
  obtain ⟨t1, a1, h1, h2⟩ := h
  exact (Pre_UV hs h1).trans (Pre_PL hs _ _ _ _ _ h2)
theorem Pre_SL (hs : SubP sub) : ∀ (f : Nat) (t : Int32) (a : zA) (y : Int32) (b : zA), zSL T sub f t a = .inr (y, b) → Pre a b
  | 0, t, a, y, b, h => by cases h
  | f + 1, t, a, y, b, h => by
    rw [zSL] at h
    split at h
    · rw [it_l, pb_inr] at h
      obtain ⟨c1, _, a1, h1, h2⟩ := h
      rw [pb_inr] at h2
      obtain ⟨u, a2, h3, h4⟩ := h2
      rw [it_l] at h4
      exact (Pre_N h1).trans ((Pre_prod hs h3).trans (Pre_E.trans (Pre_SL hs f _ _ _ _ h4.2)))
    · cases h; exact Pre.refl _
theorem Pre_sum (hs : SubP sub) (h : zSum T sub a = .inr (y, b)) : Pre a b := by
  unfold zSum at h
  rw [pb_inr] at h
  obtain ⟨t1, a1, h1, h2⟩ := h
  exact (Pre_prod hs h1).trans (Pre_SL hs _ _ _ _ _ h2)
theorem Pre_Ex (hs : SubP sub) (h : zEx T sub a = .inr (y, b)) : Pre a b := by
  unfold zEx at h
  rw [pb_inr] at h
  obtain ⟨t1, a1, h1, h2⟩ := h
  refine (Pre_sum hs h1).trans ?_
  split at h2
  · rw [it_l, pb_inr] at h2
    obtain ⟨c1, _, a2, h3, h4⟩ := h2
    rw [pb_inr] at h4
    obtain ⟨u, a3, h5, h6⟩ := h4
    rw [it_l] at h6
    obtain ⟨c2, h6⟩ := h6
    cases h6
    exact (Pre_N h3).trans ((Pre_sum hs h5).trans Pre_E)
  · cases h2; exact Pre.refl _
theorem Pre_X : ∀ n, SubP (zX_ T n)
  | 0 => fun a y b h => by cases h
  | n + 1 => fun a y b h => Pre_Ex (Pre_X n) h
end
