section
/-! NO NAME IS OF THE TYPE OF NOTHING: so no item reads one; the tries begun are few -/
variable {T : zT} {N : Nat} {a b c : zA} {y t : Int32} {sub : zA → zR}
def I5 (a : zA) : Prop := (∀ e ∈ a_i a, e.1 = 5 → e.2.2.2.2.1 ≠ 38) ∧ (∀ e ∈ a_k a, e.2.1 ≠ 38) ∧ ((a_w a).1 = 5 → (a_w a).2.2.2 ≠ 38)
def E5 (a b : zA) : Prop := a_r b = a_r a ∧ a_k b = a_k a ∧ (I5 a → I5 b)
theorem E5.refl (a : zA) : E5 a a := ⟨rfl, rfl, fun h => h⟩
theorem E5.trans (h : E5 a b) (k : E5 b c) : E5 a c := ⟨k.1.trans h.1, k.2.1.trans h.2.1, fun i => k.2.2 (h.2.2 i)⟩
theorem E5_Eg {op : Nat} {arg ty pl : Int32} (h : I5 a → op = 5 → ty ≠ 38) : E5 a (zE a op arg 0 ty pl) := ⟨rfl, rfl, fun i => ⟨fun e he => by
  rcases List.mem_append.mp (show e ∈ a_i a ++ [_] from he) with z | z
  · exact i.1 e z
  · rw [List.mem_singleton.mp z]; exact h i, i.2⟩⟩
theorem E5_E {op : Nat} {arg ty pl : Int32} (h : op ≠ 5) : E5 a (zE a op arg 0 ty pl) := E5_Eg (fun _ z => absurd z h)
theorem E5_W {w : Nat × Int32 × Int32 × Int32} (h : I5 a → w.1 = 5 → w.2.2.2 ≠ 38) : E5 a (aW a w) := ⟨rfl, rfl, fun i => ⟨i.1, i.2.1, h i⟩⟩
theorem E5_reads : E5 a (zReads a) := by
  unfold zReads
  split
  · exact (E5_Eg (a := a) fun i => i.2.2).trans (E5_W fun _ z => absurd z (show (0 : Nat) ≠ 5 by decide))
  · exact E5_W fun _ z => absurd z (show (0 : Nat) ≠ 5 by decide)
def Sub5 (sub : zA → zR) : Prop := ∀ a y b, sub a = .inr (y, b) → E5 a b
theorem E5_N {x : Int32 × zA} (h : zN a = .inr x) : E5 a x.2 := by
  obtain ⟨-, rfl⟩ := zN_inr.mp h; exact E5.refl a
theorem E5_opens {c : Int32} {x : Int32 × zA} (h : zOpens T c a = .inr x) : E5 a x.2 := by
  obtain ⟨-, -, rfl⟩ := zOpens_inr.mp h; exact E5.refl a
theorem not5 {p : Int32} (h : ¬ p < 12) : (p + 16).toNatClampNeg ≠ 5 := fun z => h (by
  have e : p + 16 = 5 := by
    have h1 : (p + 16).toInt.toNat = 5 := z
    have h2 : (p + 16).toInt = 5 := by omega
    exact Int32.toInt_inj.mp h2
  have : p = 5 - 16 := by rw [← e]; simp
  rw [this]; decide)
theorem E5_args {ps : List Int32} (hs : Sub5 sub) : ∀ (f i : Nat) (a : zA) (y : Int32) (b : zA), zArgs T sub ps f i a = .inr (y, b) → E5 a b
  | 0, i, a, y, b, h => by cases h
  | f + 1, i, a, y, b, h => by
    rw [zArgs, pb_inr] at h
    obtain ⟨t, a1, h1, h2⟩ := h
    rw [it_l, it_l] at h2
    obtain ⟨c1, c2, h3⟩ := h2
    by_cases q : T.1 (a_p a1) = 44
    · rw [if_pos q, pb_inr] at h3
      obtain ⟨_, a2, h4, h5⟩ := h3
      exact (hs _ _ _ h1).trans ((E5_N h4).trans (E5_args hs f (i + 1) _ y b h5))
    · rw [if_neg q] at h3
      cases h3
      exact hs _ _ _ h1
theorem E5_call (hs : Sub5 sub) (h : zCall T sub a = .inr (y, b)) : E5 a b := by
  unfold zCall at h
  rw [it_r, pb_inr] at h
  obtain ⟨c0, _, a1, h1, h2⟩ := h
  rw [pb_inr] at h2
  obtain ⟨_, a2, h3, h4⟩ := h2
  rw [pb_inr] at h4
  obtain ⟨n, a3, h5, h6⟩ := h4
  have k3 : E5 a2 a3 := by
    by_cases q : T.1 (a_p a2) = 41
    · rw [if_pos q] at h5; cases h5; exact E5.refl _
    · rw [if_neg q] at h5; exact E5_args hs _ _ _ _ _ h5
  rw [it_l, pb_inr] at h6
  obtain ⟨c3, _, a4, h7, h8⟩ := h6
  have k4 : E5 a3 a4 := E5_N h7
  refine (E5_N h1).trans ((E5_opens h3).trans (k3.trans (k4.trans ?_)))
  by_cases q : pFind (T.2.1 (a_p a)) (a_q a) < 12
  · rw [if_pos q] at h8; cases h8; exact E5_E (show (27 : Nat) ≠ 5 by decide)
  · rw [if_neg q] at h8; cases h8; exact E5_E (not5 q)
theorem E5_new (hs : Sub5 sub) (h : zNew T sub a = .inr (y, b)) : E5 a b := by
  unfold zNew at h
  rw [pb_inr] at h
  obtain ⟨_, a1, h1, h2⟩ := h
  rw [it_l, pb_inr] at h2
  obtain ⟨c1, _, a2, h3, h4⟩ := h2
  refine (E5_N h1).trans ((E5_N h3).trans ?_)
  split at h4
  · rw [pb_inr] at h4
    obtain ⟨_, a3, h5, h6⟩ := h4
    rw [it_l, pb_inr] at h6
    obtain ⟨c3, _, a4, h7, h8⟩ := h6
    have k : E5 a3 a4 := E5_N h7
    cases h8
    exact (E5_opens h5).trans (k.trans (E5_E (by decide)))
  · rw [pb_inr] at h4
    obtain ⟨_, a3, h5, h6⟩ := h4
    rw [pb_inr] at h6
    obtain ⟨u, a4, h7, h8⟩ := h6
    rw [it_l, it_l, pb_inr] at h8
    obtain ⟨c3, c4, _, a5, h9, h10⟩ := h8
    have k : E5 a4 a5 := E5_N h9
    cases h10
    exact (E5_opens h5).trans ((hs _ _ _ h7).trans (k.trans (E5_E (by decide))))
theorem E5_num {p0 : Nat} {v : Int32} (h : zNum T p0 v a = .inr (y, b)) : E5 a b := by
  unfold zNum at h
  rw [pb_inr] at h
  obtain ⟨_, a1, h1, h2⟩ := h
  have k := E5_N h1
  cases h2
  exact (E5_E (by decide)).trans k
theorem E5_fst (hs : Sub5 sub) (h : zFst T sub a = .inr (y, b)) : E5 a b := by
  unfold zFst at h
  split at h
  · exact E5_num h
  split at h
  · rw [pb_inr] at h
    obtain ⟨_, a1, h1, h2⟩ := h
    rw [it_l] at h2
    exact (E5_N h1).trans (E5_num h2.2)
  split at h
  · rw [pb_inr] at h
    obtain ⟨_, a1, h1, h2⟩ := h
    have k := E5_N h1
    cases h2
    exact (E5_E (by decide)).trans k
  split at h
  · exact E5_new hs h
  split at h
  · rw [pb_inr] at h
    obtain ⟨_, a1, h1, h2⟩ := h
    rw [pb_inr] at h2
    obtain ⟨u, a2, h3, h4⟩ := h2
    rw [it_l, pb_inr] at h4
    obtain ⟨c2, _, a3, h5, h6⟩ := h4
    have k : E5 a2 a3 := E5_N h5
    cases h6
    exact (E5_opens h1).trans ((hs _ _ _ h3).trans k)
  rw [it_l] at h
  obtain ⟨-, h⟩ := h
  split at h
  · exact E5_call hs h
  · revert h
    cases hk : kFind (T.2.1 (a_p a)) (a_k a) with
    | none => intro h; cases h
    | some e =>
      intro h
      have h : pb (zN a) (fun _ a1 => .inr (e.1, aW (aS a1 1) (5, Int32.ofNat e.2, T.2.2.2 (a_p a), e.1))) = .inr (y, b) := h
      rw [pb_inr] at h
      obtain ⟨_, a1, h1, h2⟩ := h
      obtain ⟨-, e1⟩ := zN_inr.mp h1
      cases e1
      cases h2
      exact E5_W fun i _ => i.2.1 _ (kFind_m hk)
theorem E5_idx (hs : Sub5 sub) (h : zIdx T sub t a = .inr (y, b)) : E5 a b := by
  unfold zIdx at h
  rw [pb_inr] at h
  obtain ⟨_, a1, h1, h2⟩ := h
  rw [pb_inr] at h2
  obtain ⟨u, a2, h3, h4⟩ := h2
  rw [it_l, it_l, pb_inr] at h4
  obtain ⟨c2, c3, _, a3, h5, h6⟩ := h4
  have k : E5 a2 a3 := E5_N h5
  cases h6
  exact E5_reads.trans ((E5_opens h1).trans ((hs _ _ _ h3).trans (k.trans (E5_W fun _ z => absurd z (show (15 : Nat) ≠ 5 by decide)))))
theorem E5_mem (h : zMem T t a = .inr (y, b)) : E5 a b := by
  unfold zMem at h
  rw [pb_inr] at h
  obtain ⟨_, a1, h1, h2⟩ := h
  refine E5_reads.trans ((E5_N h1).trans ?_)
  split at h2
  · rw [it_l, pb_inr] at h2
    obtain ⟨c1, _, a2, h3, h4⟩ := h2
    have k := E5_N h3
    cases h4
    exact (E5_E (by decide)).trans k
  · rw [it_l, it_r, it_l, pb_inr] at h2
    obtain ⟨c1, c2, c3, _, a2, h3, h4⟩ := h2
    have k := E5_N h3
    cases h4
    exact k.trans (E5_W fun _ z => absurd z (show (17 : Nat) ≠ 5 by decide))
theorem E5_ask (h : zAsk T t a = .inr (y, b)) : E5 a b := by
  unfold zAsk at h
  rw [pb_inr] at h
  obtain ⟨_, a1, h1, h2⟩ := h
  refine E5_reads.trans ((E5_N h1).trans ?_)
  obtain ⟨-, -, h3⟩ := zAskT_inr h2
  rcases h3 with ⟨-, -, -, -, -, -, h3⟩ | ⟨-, -, h3⟩
  · split at h3 <;> cases h3 <;> exact E5_E (by decide)
  · split at h3 <;> cases h3 <;> exact E5_E (by decide)
theorem E5_UL (hs : Sub5 sub) : ∀ (f : Nat) (t : Int32) (a : zA) (y : Int32) (b : zA), zUL T sub f t a = .inr (y, b) → E5 a b
  | 0, t, a, y, b, h => by cases h
  | f + 1, t, a, y, b, h => by
    rw [zUL] at h
    split at h
    · rw [pb_inr] at h
      obtain ⟨t1, a1, h1, h2⟩ := h
      exact (E5_idx hs h1).trans (E5_UL hs f _ _ _ _ h2)
    split at h
    · rw [pb_inr] at h
      obtain ⟨t1, a1, h1, h2⟩ := h
      exact (E5_mem h1).trans (E5_UL hs f _ _ _ _ h2)
    split at h
    · rw [pb_inr] at h
      obtain ⟨t1, a1, h1, h2⟩ := h
      exact (E5_ask h1).trans (E5_UL hs f _ _ _ _ h2)
    cases h
    exact E5.refl _
theorem E5_unit (hs : Sub5 sub) (h : zUnit T sub a = .inr (y, b)) : E5 a b := by
  unfold zUnit at h
  rw [pb_inr] at h
  obtain ⟨t1, a1, h1, h2⟩ := h
  exact (show E5 a (aW (aS a 0) (0, 0, 0, 0)) from E5_W fun _ z => absurd z (show (0 : Nat) ≠ 5 by decide)).trans ((E5_fst (a := aW (aS a 0) (0, 0, 0, 0)) hs h1).trans (E5_UL hs _ _ _ _ _ h2))
theorem E5_UV (hs : Sub5 sub) (h : zUV T sub a = .inr (y, b)) : E5 a b := by
  unfold zUV at h
  rw [pb_inr] at h
  obtain ⟨t1, a1, h1, h2⟩ := h
  cases h2
  exact (E5_unit hs h1).trans E5_reads
theorem E5_PL (hs : Sub5 sub) : ∀ (f : Nat) (t : Int32) (a : zA) (y : Int32) (b : zA), zPL T sub f t a = .inr (y, b) → E5 a b
  | 0, t, a, y, b, h => by cases h
  | f + 1, t, a, y, b, h => by
    rw [zPL] at h
    split at h
    · rw [it_l, pb_inr] at h
      obtain ⟨c1, _, a1, h1, h2⟩ := h
      rw [pb_inr] at h2
      obtain ⟨u, a2, h3, h4⟩ := h2
      rw [it_l] at h4
      exact (E5_N h1).trans ((E5_UV hs h3).trans ((E5_E (by decide)).trans (E5_PL hs f _ _ _ _ h4.2)))
    · cases h; exact E5.refl _
theorem E5_prod (hs : Sub5 sub) (h : zProd T sub a = .inr (y, b)) : E5 a b := by
  unfold zProd at h
  rw [pb_inr] at h
  obtain ⟨t1, a1, h1, h2⟩ := h
  exact (E5_UV hs h1).trans (E5_PL hs _ _ _ _ _ h2)
theorem E5_SL (hs : Sub5 sub) : ∀ (f : Nat) (t : Int32) (a : zA) (y : Int32) (b : zA), zSL T sub f t a = .inr (y, b) → E5 a b
  | 0, t, a, y, b, h => by cases h
  | f + 1, t, a, y, b, h => by
    rw [zSL] at h
    split at h
    · rw [it_l, pb_inr] at h
      obtain ⟨c1, _, a1, h1, h2⟩ := h
      rw [pb_inr] at h2
      obtain ⟨u, a2, h3, h4⟩ := h2
      rw [it_l] at h4
      exact (E5_N h1).trans ((E5_prod hs h3).trans ((E5_E (by split <;> decide)).trans (E5_SL hs f _ _ _ _ h4.2)))
    · cases h; exact E5.refl _
theorem E5_sum (hs : Sub5 sub) (h : zSum T sub a = .inr (y, b)) : E5 a b := by
  unfold zSum at h
  rw [pb_inr] at h
  obtain ⟨t1, a1, h1, h2⟩ := h
  exact (E5_prod hs h1).trans (E5_SL hs _ _ _ _ _ h2)
theorem E5_Ex (hs : Sub5 sub) (h : zEx T sub a = .inr (y, b)) : E5 a b := by
  unfold zEx at h
  rw [pb_inr] at h
  obtain ⟨t1, a1, h1, h2⟩ := h
  refine (E5_sum hs h1).trans ?_
  split at h2
  · rw [it_l, pb_inr] at h2
    obtain ⟨c1, _, a2, h3, h4⟩ := h2
    rw [pb_inr] at h4
    obtain ⟨u, a3, h5, h6⟩ := h4
    rw [it_l] at h6
    obtain ⟨c2, h6⟩ := h6
    cases h6
    exact (E5_N h3).trans ((E5_sum hs h5).trans (E5_E (by split <;> (first | decide | (split <;> decide)))))
  · cases h2; exact E5.refl _
theorem E5_X : ∀ n, Sub5 (zX_ T n)
  | 0 => fun a y b h => by cases h
  | n + 1 => fun a y b h => E5_Ex (E5_X n) h
end
