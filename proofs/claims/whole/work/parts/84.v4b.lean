section
/-! THE ITEMS OF AN EXPRESSION point nowhere, and the tries that are begun are those of before -/
variable {T : zT} {a b c : zA} {y t : Int32} {sub : zA → zR}
def PrE (a b : zA) : Prop := (∃ l, a_i b = a_i a ++ l ∧ ∀ e ∈ l, e.2.2.1 = 0 ∧ e.2.2.2.2.2.2.2.2 = a_h a) ∧ a_h b = a_h a
theorem PrE.refl (a : zA) : PrE a a := ⟨⟨[], by simp, fun e he => by cases he⟩, rfl⟩
theorem PrE.trans (h : PrE a b) (k : PrE b c) : PrE a c := by
  obtain ⟨⟨l, h1, h2⟩, h3⟩ := h
  obtain ⟨⟨m, k1, k2⟩, k3⟩ := k
  refine ⟨⟨l ++ m, by rw [k1, h1, List.append_assoc], fun e he => ?_⟩, k3.trans h3⟩
  rcases List.mem_append.mp he with z | z
  · exact h2 e z
  · rw [← h3]; exact k2 e z
theorem PrE_E {op : Nat} {arg ty pl : Int32} : PrE a (zE a op arg 0 ty pl) := ⟨⟨[_], rfl, fun e he => by rcases List.mem_singleton.mp he with rfl; exact ⟨rfl, rfl⟩⟩, rfl⟩
theorem PrE_reads : PrE a (zReads a) := by
  unfold zReads
  split
  · exact PrE_E
  · exact PrE.refl a
def SubE (sub : zA → zR) : Prop := ∀ a y b, sub a = .inr (y, b) → PrE a b
theorem PrE_N {x : Int32 × zA} (h : zN a = .inr x) : PrE a x.2 := by
  obtain ⟨-, rfl⟩ := zN_inr.mp h; exact PrE.refl a
theorem PrE_opens {c : Int32} {x : Int32 × zA} (h : zOpens T c a = .inr x) : PrE a x.2 := by
  obtain ⟨-, -, rfl⟩ := zOpens_inr.mp h; exact PrE.refl a
theorem PrE_args {ps : List Int32} (hs : SubE sub) : ∀ (f i : Nat) (a : zA) (y : Int32) (b : zA), zArgs T sub ps f i a = .inr (y, b) → PrE a b
  | 0, i, a, y, b, h => by cases h
  | f + 1, i, a, y, b, h => by
    rw [zArgs, pb_inr] at h
    obtain ⟨t, a1, h1, h2⟩ := h
    rw [it_l, it_l] at h2
    obtain ⟨c1, c2, h3⟩ := h2
    by_cases q : T.1 (a_p a1) = 44
    · rw [if_pos q, pb_inr] at h3
      obtain ⟨_, a2, h4, h5⟩ := h3
      exact (hs _ _ _ h1).trans ((PrE_N h4).trans (PrE_args hs f (i + 1) _ y b h5))
    · rw [if_neg q] at h3
      cases h3
      exact hs _ _ _ h1
theorem PrE_call (hs : SubE sub) (h : zCall T sub a = .inr (y, b)) : PrE a b := by
  unfold zCall at h
  rw [it_r, pb_inr] at h
  obtain ⟨c0, _, a1, h1, h2⟩ := h
  rw [pb_inr] at h2
  obtain ⟨_, a2, h3, h4⟩ := h2
  rw [pb_inr] at h4
  obtain ⟨n, a3, h5, h6⟩ := h4
  have k3 : PrE a2 a3 := by
    by_cases q : T.1 (a_p a2) = 41
    · rw [if_pos q] at h5; cases h5; exact PrE.refl _
    · rw [if_neg q] at h5; exact PrE_args hs _ _ _ _ _ h5
  rw [it_l, pb_inr] at h6
  obtain ⟨c3, _, a4, h7, h8⟩ := h6
  have k4 : PrE a3 a4 := PrE_N h7
  refine (PrE_N h1).trans ((PrE_opens h3).trans (k3.trans (k4.trans ?_)))
  by_cases q : pFind (T.2.1 (a_p a)) (a_q a) < 12
  · rw [if_pos q] at h8; cases h8; exact PrE_E
  · rw [if_neg q] at h8; cases h8; exact PrE_E
theorem PrE_new (hs : SubE sub) (h : zNew T sub a = .inr (y, b)) : PrE a b := by
  unfold zNew at h
  rw [pb_inr] at h
  obtain ⟨_, a1, h1, h2⟩ := h
  rw [it_l, pb_inr] at h2
  obtain ⟨c1, _, a2, h3, h4⟩ := h2
  refine (PrE_N h1).trans ((PrE_N h3).trans ?_)
  split at h4
  · rw [pb_inr] at h4
    obtain ⟨_, a3, h5, h6⟩ := h4
    rw [it_l, pb_inr] at h6
    obtain ⟨c3, _, a4, h7, h8⟩ := h6
    have k : PrE a3 a4 := PrE_N h7
    cases h8
    exact (PrE_opens h5).trans (k.trans PrE_E)
  · rw [pb_inr] at h4
    obtain ⟨_, a3, h5, h6⟩ := h4
    rw [pb_inr] at h6
    obtain ⟨u, a4, h7, h8⟩ := h6
    rw [it_l, it_l, pb_inr] at h8
    obtain ⟨c3, c4, _, a5, h9, h10⟩ := h8
    have k : PrE a4 a5 := PrE_N h9
    cases h10
    exact (PrE_opens h5).trans ((hs _ _ _ h7).trans (k.trans PrE_E))
theorem PrE_num {p0 : Nat} {v : Int32} (h : zNum T p0 v a = .inr (y, b)) : PrE a b := by
  unfold zNum at h
  rw [pb_inr] at h
  obtain ⟨_, a1, h1, h2⟩ := h
  have k := PrE_N h1
  cases h2
  exact PrE_E.trans k
theorem PrE_fst (hs : SubE sub) (h : zFst T sub a = .inr (y, b)) : PrE a b := by
  unfold zFst at h
  split at h
  · exact PrE_num h
  split at h
  · rw [pb_inr] at h
    obtain ⟨_, a1, h1, h2⟩ := h
    rw [it_l] at h2
    exact (PrE_N h1).trans (PrE_num h2.2)
  split at h
  · rw [pb_inr] at h
    obtain ⟨_, a1, h1, h2⟩ := h
    have k := PrE_N h1
    cases h2
    exact PrE_E.trans k
  split at h
  · exact PrE_new hs h
  split at h
  · rw [pb_inr] at h
    obtain ⟨_, a1, h1, h2⟩ := h
    rw [pb_inr] at h2
    obtain ⟨u, a2, h3, h4⟩ := h2
    rw [it_l, pb_inr] at h4
    obtain ⟨c2, _, a3, h5, h6⟩ := h4
    have k : PrE a2 a3 := PrE_N h5
    cases h6
    exact (PrE_opens h1).trans ((hs _ _ _ h3).trans k)
  rw [it_l] at h
  obtain ⟨-, h⟩ := h
  split at h
  · exact PrE_call hs h
  · revert h
    cases kFind (T.2.1 (a_p a)) (a_k a) with
    | none => intro h; cases h
    | some e =>
      intro h
      have h : pb (zN a) (fun _ a1 => .inr (e.1, aW (aS a1 1) (5, Int32.ofNat e.2, T.2.2.2 (a_p a), e.1))) = .inr (y, b) := h
      rw [pb_inr] at h
      obtain ⟨_, a1, h1, h2⟩ := h
      have k := PrE_N h1
      cases h2
      exact k
theorem PrE_idx (hs : SubE sub) (h : zIdx T sub t a = .inr (y, b)) : PrE a b := by
  unfold zIdx at h
  rw [pb_inr] at h
  obtain ⟨_, a1, h1, h2⟩ := h
  rw [pb_inr] at h2
  obtain ⟨u, a2, h3, h4⟩ := h2
  rw [it_l, it_l, pb_inr] at h4
  obtain ⟨c2, c3, _, a3, h5, h6⟩ := h4
  have k : PrE a2 a3 := PrE_N h5
  cases h6
  exact PrE_reads.trans ((PrE_opens h1).trans ((hs _ _ _ h3).trans k))
theorem PrE_mem (h : zMem T t a = .inr (y, b)) : PrE a b := by
  unfold zMem at h
  rw [pb_inr] at h
  obtain ⟨_, a1, h1, h2⟩ := h
  refine PrE_reads.trans ((PrE_N h1).trans ?_)
  split at h2
  · rw [it_l, pb_inr] at h2
    obtain ⟨c1, _, a2, h3, h4⟩ := h2
    have k := PrE_N h3
    cases h4
    exact PrE_E.trans k
  · rw [it_l, it_r, it_l, pb_inr] at h2
    obtain ⟨c1, c2, c3, _, a2, h3, h4⟩ := h2
    have k := PrE_N h3
    cases h4
    exact k
theorem PrE_ask (h : zAsk T t a = .inr (y, b)) : PrE a b := by
  unfold zAsk at h
  rw [pb_inr] at h
  obtain ⟨_, a1, h1, h2⟩ := h
  refine PrE_reads.trans ((PrE_N h1).trans ?_)
  obtain ⟨-, -, h3⟩ := zAskT_inr h2
  rcases h3 with ⟨-, -, -, -, -, -, h3⟩ | ⟨-, -, h3⟩
  · split at h3 <;> cases h3 <;> exact PrE_E
  · split at h3 <;> cases h3 <;> exact PrE_E
theorem PrE_UL (hs : SubE sub) : ∀ (f : Nat) (t : Int32) (a : zA) (y : Int32) (b : zA), zUL T sub f t a = .inr (y, b) → PrE a b
  | 0, t, a, y, b, h => by cases h
  | f + 1, t, a, y, b, h => by
    rw [zUL] at h
    split at h
    · rw [pb_inr] at h
      obtain ⟨t1, a1, h1, h2⟩ := h
      exact (PrE_idx hs h1).trans (PrE_UL hs f _ _ _ _ h2)
    split at h
    · rw [pb_inr] at h
      obtain ⟨t1, a1, h1, h2⟩ := h
      exact (PrE_mem h1).trans (PrE_UL hs f _ _ _ _ h2)
    split at h
    · rw [pb_inr] at h
      obtain ⟨t1, a1, h1, h2⟩ := h
      exact (PrE_ask h1).trans (PrE_UL hs f _ _ _ _ h2)
    cases h
    exact PrE.refl _
theorem PrE_unit (hs : SubE sub) (h : zUnit T sub a = .inr (y, b)) : PrE a b := by
  unfold zUnit at h
  rw [pb_inr] at h
  obtain ⟨t1, a1, h1, h2⟩ := h
  exact (show PrE a a1 from PrE_fst (a := aW (aS a 0) (0, 0, 0, 0)) hs h1).trans (PrE_UL hs _ _ _ _ _ h2)
theorem PrE_UV (hs : SubE sub) (h : zUV T sub a = .inr (y, b)) : PrE a b := by
  unfold zUV at h
  rw [pb_inr] at h
  obtain ⟨t1, a1, h1, h2⟩ := h
  cases h2
  exact (PrE_unit hs h1).trans PrE_reads
theorem PrE_PL (hs : SubE sub) : ∀ (f : Nat) (t : Int32) (a : zA) (y : Int32) (b : zA), zPL T sub f t a = .inr (y, b) → PrE a b
  | 0, t, a, y, b, h => by cases h
  | f + 1, t, a, y, b, h => by
    rw [zPL] at h
    split at h
    · rw [it_l, pb_inr] at h
      obtain ⟨c1, _, a1, h1, h2⟩ := h
      rw [pb_inr] at h2
      obtain ⟨u, a2, h3, h4⟩ := h2
      rw [it_l] at h4
      exact (PrE_N h1).trans ((PrE_UV hs h3).trans (PrE_E.trans (PrE_PL hs f _ _ _ _ h4.2)))
    · cases h; exact PrE.refl _
theorem PrE_prod (hs : SubE sub) (h : zProd T sub a = .inr (y, b)) : PrE a b := by
  unfold zProd at h
  rw [pb_inr] at h
  obtain ⟨t1, a1, h1, h2⟩ := h
  exact (PrE_UV hs h1).trans (PrE_PL hs _ _ _ _ _ h2)
theorem PrE_SL (hs : SubE sub) : ∀ (f : Nat) (t : Int32) (a : zA) (y : Int32) (b : zA), zSL T sub f t a = .inr (y, b) → PrE a b
  | 0, t, a, y, b, h => by cases h
  | f + 1, t, a, y, b, h => by
    rw [zSL] at h
    split at h
    · rw [it_l, pb_inr] at h
      obtain ⟨c1, _, a1, h1, h2⟩ := h
      rw [pb_inr] at h2
      obtain ⟨u, a2, h3, h4⟩ := h2
      rw [it_l] at h4
      exact (PrE_N h1).trans ((PrE_prod hs h3).trans (PrE_E.trans (PrE_SL hs f _ _ _ _ h4.2)))
    · cases h; exact PrE.refl _
theorem PrE_sum (hs : SubE sub) (h : zSum T sub a = .inr (y, b)) : PrE a b := by
  unfold zSum at h
  rw [pb_inr] at h
  obtain ⟨t1, a1, h1, h2⟩ := h
  exact (PrE_prod hs h1).trans (PrE_SL hs _ _ _ _ _ h2)
theorem PrE_Ex (hs : SubE sub) (h : zEx T sub a = .inr (y, b)) : PrE a b := by
  unfold zEx at h
  rw [pb_inr] at h
  obtain ⟨t1, a1, h1, h2⟩ := h
  refine (PrE_sum hs h1).trans ?_
  split at h2
  · rw [it_l, pb_inr] at h2
    obtain ⟨c1, _, a2, h3, h4⟩ := h2
    rw [pb_inr] at h4
    obtain ⟨u, a3, h5, h6⟩ := h4
    rw [it_l] at h6
    obtain ⟨c2, h6⟩ := h6
    cases h6
    exact (PrE_N h3).trans ((PrE_sum hs h5).trans PrE_E)
  · cases h2; exact PrE.refl _
theorem PrE_X : ∀ n, SubE (zX_ T n)
  | 0 => fun a y b h => by cases h
  | n + 1 => fun a y b h => PrE_Ex (PrE_X n) h
end
