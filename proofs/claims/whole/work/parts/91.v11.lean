section
/-! TYPES THAT ARE READ are types -/
variable {T : zT} {N : Nat} {a b : zA} {y t : Int32} {sub : zA → zR}
def tyOk (t : Int32) : Prop := t = 36 ∨ t = 38 ∨ cRef t = 1
def tyA (a : zA) : Prop := (∀ e ∈ a_k a, tyOk e.2.1) ∧ ∀ q ∈ a_q a, tyOk q.2.1 ∧ ∀ t ∈ q.2.2.1, tyOk t
def SubV (sub : zA → zR) : Prop := ∀ a y b, a_p a ≤ 800 → tyA a → sub a = .inr (y, b) → tyOk y
theorem tyA_eq (h : eqx a b) (k : tyA a) : tyA b := by
  obtain ⟨h1, -, -, h4, -⟩ := h
  unfold tyA; rw [h1, h4]; exact k
theorem tV_k (hT : TK T N) {p : Nat} (h : T.1 p = 5) : (∃ k, k < 18 ∧ tV T p = Int32.ofNat k) ∨ tV T p = 36 := by
  rcases hT.2.2.2.2.1 p h with ⟨k, hk, e⟩ | e
  · exact Or.inl ⟨k, hk, by unfold tV; rw [e, Int32.toInt32_toInt64]⟩
  · exact Or.inr (by unfold tV; rw [e, Int32.toInt32_toInt64])
theorem ty_d : ∀ k, k < 18 → (cRef (Int32.ofNat k) = 1 ∧ cRef (18 + Int32.ofNat k) = 1 ∧ Int32.ofNat k ≠ 36) := by decide
theorem row_d : ∀ k, k < 36 → ¬ Int32.ofNat k < 18 → (cRef (Int32.ofNat k - 18) = 1 ∧ cRef (Int32.ofNat k) = 1) := by decide
theorem not_lt_le {x : Int32} (h : ¬ x < 18) : ¬ x < 0 := fun q => h (by
  have e1 := Int32.lt_iff_toInt_lt.mp q
  apply Int32.lt_iff_toInt_lt.mpr
  have e2 : (0 : Int32).toInt = 0 := rfl
  have e3 : (18 : Int32).toInt = 18 := rfl
  omega)
theorem row_v (h : ¬ t < 18) (h2 : t < 36) : cRef (t - 18) = 1 := by
  obtain ⟨k, hk, rfl⟩ := i32_nat (n := 36) (by omega) (not_lt_le h) h2
  exact (row_d k hk h).1
theorem tyOk_tV (hT : TK T N) {p : Nat} (h : T.1 p = 5) : tyOk (tV T p) := by
  rcases tV_k hT h with ⟨k, hk, e⟩ | e
  · rw [e]; exact Or.inr (Or.inr (ty_d k hk).1)
  · exact Or.inl e
theorem tyOk_row (hT : TK T N) {p : Nat} (h : T.1 p = 5) (h36 : tV T p ≠ 36) : tyOk (18 + tV T p) := by
  rcases tV_k hT h with ⟨k, hk, e⟩ | e
  · rw [e]; exact Or.inr (Or.inr (ty_d k hk).2.1)
  · exact absurd e h36
theorem V_ty (hT : TK T N) (h : zTy T a = .inr (y, b)) : tyOk y := by
  obtain ⟨h1, -, h2⟩ := zTy_inr h
  rcases h2 with ⟨h2, -⟩ | ⟨h3, -, -, -, -, h2⟩
  · cases h2; exact tyOk_tV hT h1
  · cases h2; exact tyOk_row hT h1 h3
theorem qGiv_v (k : tyA a) (q : Int32) : tyOk (qGiv (a_q a) q) := by
  unfold qGiv
  split
  · cases h : (a_q a)[q.toNatClampNeg]? with
    | none => exact Or.inr (Or.inl rfl)
    | some e => exact (k.2 e (List.mem_of_getElem? h)).1
  · split
    · exact Or.inr (Or.inr rfl)
    · exact Or.inl rfl
theorem V_fst (hT : TK T N) (hs : SubV sub) (hp : a_p a ≤ 800) (k : tyA a) (h : zFst T sub a = .inr (y, b)) : tyOk y := by
  have num : ∀ {a0 p0 v}, zNum T p0 v a0 = .inr (y, b) → tyOk y := by
    intro a0 p0 v h
    unfold zNum at h
    rw [pb_inr] at h
    obtain ⟨_, a1, h1, h2⟩ := h
    cases h2; exact Or.inl rfl
  unfold zFst at h
  split at h
  · exact num h
  split at h
  · rw [pb_inr] at h
    obtain ⟨_, a1, h1, h2⟩ := h
    rw [it_l] at h2
    exact num h2.2
  split at h
  · rw [pb_inr] at h
    obtain ⟨_, a1, h1, h2⟩ := h
    cases h2; exact Or.inr (Or.inr rfl)
  split at h
  · unfold zNew at h
    rw [pb_inr] at h
    obtain ⟨_, a1, h1, h2⟩ := h
    rw [it_l, pb_inr] at h2
    obtain ⟨c1, _, a2, h3, h4⟩ := h2
    split at h4
    · rw [pb_inr] at h4
      obtain ⟨_, a3, h5, h6⟩ := h4
      rw [it_l, pb_inr] at h6
      obtain ⟨c3, _, a4, h7, h8⟩ := h6
      cases h8
      exact tyOk_tV hT c1.1
    · rw [pb_inr] at h4
      obtain ⟨_, a3, h5, h6⟩ := h4
      rw [pb_inr] at h6
      obtain ⟨u, a4, h7, h8⟩ := h6
      rw [it_l, it_l, pb_inr] at h8
      obtain ⟨c3, c4, _, a5, h9, h10⟩ := h8
      cases h10
      exact tyOk_row hT c1.1 c1.2
  split at h
  · rw [pb_inr] at h
    obtain ⟨_, a1, h1, h2⟩ := h
    obtain ⟨-, n1, e1⟩ := zOpens_inr.mp h1
    cases e1
    rw [pb_inr] at h2
    obtain ⟨u, a2, h3, h4⟩ := h2
    have v := hs (aP (aO a (a_o a + 1)) (a_p a + 1)) _ _ (by show a_p a + 1 ≤ 800; omega) k h3
    rw [it_l, pb_inr] at h4
    obtain ⟨c2, _, a3, h5, h6⟩ := h4
    cases h6
    exact v
  rw [it_l] at h
  obtain ⟨-, h⟩ := h
  split at h
  · unfold zCall at h
    rw [it_r, pb_inr] at h
    obtain ⟨c0, _, a1, h1, h2⟩ := h
    rw [pb_inr] at h2
    obtain ⟨_, a2, h3, h4⟩ := h2
    rw [pb_inr] at h4
    obtain ⟨n, a3, h5, h6⟩ := h4
    rw [it_l, pb_inr] at h6
    obtain ⟨c3, _, a4, h7, h8⟩ := h6
    cases h8
    exact qGiv_v k _
  · revert h
    cases hk : kFind (T.2.1 (a_p a)) (a_k a) with
    | none => intro h; cases h
    | some e =>
      intro h
      have h : pb (zN a) (fun _ a1 => .inr (e.1, aW (aS a1 1) (5, Int32.ofNat e.2, T.2.2.2 (a_p a), e.1))) = .inr (y, b) := h
      rw [pb_inr] at h
      obtain ⟨_, a1, h1, h2⟩ := h
      cases h2
      exact k.1 _ (kFind_m hk)
theorem V_idx (h : zIdx T sub t a = .inr (y, b)) : tyOk y := by
  unfold zIdx at h
  rw [pb_inr] at h
  obtain ⟨_, a1, h1, h2⟩ := h
  rw [pb_inr] at h2
  obtain ⟨u, a2, h3, h4⟩ := h2
  rw [it_l, it_l, pb_inr] at h4
  obtain ⟨c2, c3, _, a3, h5, h6⟩ := h4
  cases h6
  exact Or.inr (Or.inr (row_v c3.1.1 c3.1.2))
theorem V_mem (h : zMem T t a = .inr (y, b)) : tyOk y := by
  unfold zMem at h
  rw [pb_inr] at h
  obtain ⟨_, a1, h1, h2⟩ := h
  split at h2
  · rw [it_l, pb_inr] at h2
    obtain ⟨c1, _, a2, h3, h4⟩ := h2
    cases h4; exact Or.inl rfl
  · rw [it_l, it_r, it_l, pb_inr] at h2
    obtain ⟨c1, c2, c3, _, a2, h3, h4⟩ := h2
    cases h4
    split
    · exact Or.inr (Or.inr rfl)
    · exact Or.inl rfl
theorem V_ask (hT : TK T N) (h : zAsk T t a = .inr (y, b)) : tyOk y := by
  unfold zAsk at h
  rw [pb_inr] at h
  obtain ⟨_, a1, h1, h2⟩ := h
  obtain ⟨c1, -, h3⟩ := zAskT_inr h2
  rcases h3 with ⟨g1, -, -, -, -, -, h3⟩ | ⟨-, -, h3⟩
  · split at h3 <;> cases h3
    · exact tyOk_row hT c1 g1
    · exact Or.inl rfl
  · split at h3 <;> cases h3
    · exact tyOk_tV hT c1
    · exact Or.inl rfl
theorem V_UL (hT : TK T N) : ∀ (f : Nat) (t : Int32) (a : zA) (y : Int32) (b : zA), tyOk t → zUL T sub f t a = .inr (y, b) → tyOk y
  | 0, t, a, y, b, hv, h => by cases h
  | f + 1, t, a, y, b, hv, h => by
    rw [zUL] at h
    split at h
    · rw [pb_inr] at h
      obtain ⟨t1, a1, h1, h2⟩ := h
      exact V_UL hT f _ _ _ _ (V_idx h1) h2
    split at h
    · rw [pb_inr] at h
      obtain ⟨t1, a1, h1, h2⟩ := h
      exact V_UL hT f _ _ _ _ (V_mem h1) h2
    split at h
    · rw [pb_inr] at h
      obtain ⟨t1, a1, h1, h2⟩ := h
      exact V_UL hT f _ _ _ _ (V_ask hT h1) h2
    cases h
    exact hv
theorem V_UV (hT : TK T N) (hs : SubV sub) (hp : a_p a ≤ 800) (k : tyA a) (h : zUV T sub a = .inr (y, b)) : tyOk y := by
  unfold zUV zUnit at h
  rw [pb_inr] at h
  obtain ⟨t1, a1, h1, h2⟩ := h
  cases h2
  rw [pb_inr] at h1
  obtain ⟨t2, a2, h3, h4⟩ := h1
  exact V_UL hT _ _ _ _ _ (V_fst (a := aW (aS a 0) (0, 0, 0, 0)) hT hs hp k h3) h4
theorem V_PL : ∀ (f : Nat) (t : Int32) (a : zA) (y : Int32) (b : zA), tyOk t → zPL T sub f t a = .inr (y, b) → tyOk y
  | 0, t, a, y, b, hv, h => by cases h
  | f + 1, t, a, y, b, hv, h => by
    rw [zPL] at h
    split at h
    · rw [it_l, pb_inr] at h
      obtain ⟨c1, _, a1, h1, h2⟩ := h
      rw [pb_inr] at h2
      obtain ⟨u, a2, h3, h4⟩ := h2
      rw [it_l] at h4
      exact V_PL f _ _ _ _ (Or.inl rfl) h4.2
    · cases h; exact hv
theorem V_SL : ∀ (f : Nat) (t : Int32) (a : zA) (y : Int32) (b : zA), tyOk t → zSL T sub f t a = .inr (y, b) → tyOk y
  | 0, t, a, y, b, hv, h => by cases h
  | f + 1, t, a, y, b, hv, h => by
    rw [zSL] at h
    split at h
    · rw [it_l, pb_inr] at h
      obtain ⟨c1, _, a1, h1, h2⟩ := h
      rw [pb_inr] at h2
      obtain ⟨u, a2, h3, h4⟩ := h2
      rw [it_l] at h4
      exact V_SL f _ _ _ _ (Or.inl rfl) h4.2
    · cases h; exact hv
theorem V_prod (hT : TK T N) (hs : SubV sub) (hp : a_p a ≤ 800) (k : tyA a) (h : zProd T sub a = .inr (y, b)) : tyOk y := by
  unfold zProd at h
  rw [pb_inr] at h
  obtain ⟨t1, a1, h1, h2⟩ := h
  exact V_PL _ _ _ _ _ (V_UV hT hs hp k h1) h2
theorem V_sum (hT : TK T N) (hs : SubV sub) (hp : a_p a ≤ 800) (k : tyA a) (h : zSum T sub a = .inr (y, b)) : tyOk y := by
  unfold zSum at h
  rw [pb_inr] at h
  obtain ⟨t1, a1, h1, h2⟩ := h
  exact V_SL _ _ _ _ _ (V_prod hT hs hp k h1) h2
theorem V_Ex (hT : TK T N) (hs : SubV sub) (hp : a_p a ≤ 800) (k : tyA a) (h : zEx T sub a = .inr (y, b)) : tyOk y := by
  unfold zEx at h
  rw [pb_inr] at h
  obtain ⟨t1, a1, h1, h2⟩ := h
  have v := V_sum hT hs hp k h1
  split at h2
  · rw [it_l, pb_inr] at h2
    obtain ⟨c1, _, a2, h3, h4⟩ := h2
    rw [pb_inr] at h4
    obtain ⟨u, a3, h5, h6⟩ := h4
    rw [it_l] at h6
    obtain ⟨c2, h6⟩ := h6
    cases h6; exact Or.inl rfl
  · cases h2; exact v
theorem V_X (hT : TK T N) : ∀ n, SubV (zX_ T n)
  | 0 => fun a y b hp k h => by cases h
  | n + 1 => fun a y b hp k h => V_Ex hT (V_X hT n) hp k h
end
