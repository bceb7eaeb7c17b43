section
/-! HOW FAR READING GOES: tokens ahead, items at most as many as tokens -/
variable {T : zT} {a b : zA} {y t : Int32}
theorem pb_inr {r : zR} {k : Int32 → zA → zR} {x : Int32 × zA} : pb r k = .inr x ↔ ∃ y a, r = .inr (y, a) ∧ k y a = .inr x := by
  rcases r with e | ⟨y, a⟩
  · constructor
    · intro h; cases h
    · rintro ⟨_, _, h, _⟩; cases h
  · constructor
    · intro h; exact ⟨y, a, rfl, h⟩
    · rintro ⟨_, _, h, h2⟩; cases h; exact h2
theorem zN_inr {x : Int32 × zA} : zN a = .inr x ↔ a_p a ≠ 800 ∧ x = (0, aP a (a_p a + 1)) := by
  unfold zN
  split
  · next h => constructor
              · intro q; cases q
              · rintro ⟨q, _⟩; exact absurd h q
  · next h => constructor
              · intro q; cases q; exact ⟨h, rfl⟩
              · rintro ⟨_, rfl⟩; rfl
theorem it_l {c : Prop} [Decidable c] {r : zR} {e : Int32 × Nat} {x : Int32 × zA} : (if c then r else .inl e) = .inr x ↔ c ∧ r = .inr x := by
  split
  · next h => exact ⟨fun q => ⟨h, q⟩, fun q => q.2⟩
  · next h => constructor
              · intro q; cases q
              · rintro ⟨q, _⟩; exact absurd q h
theorem it_r {c : Prop} [Decidable c] {r : zR} {e : Int32 × Nat} {x : Int32 × zA} : (if c then .inl e else r) = .inr x ↔ ¬ c ∧ r = .inr x := by
  split
  · next h => constructor
              · intro q; cases q
              · rintro ⟨q, _⟩; exact absurd h q
  · next h => exact ⟨fun q => ⟨h, q⟩, fun q => q.2⟩
theorem zMust_inr {c : Int32} {x : Int32 × zA} : zMust T c a = .inr x ↔ T.1 (a_p a) = c ∧ a_p a ≠ 800 ∧ x = (0, aP a (a_p a + 1)) := by
  unfold zMust; rw [it_l, zN_inr]
theorem zOpens_inr {c : Int32} {x : Int32 × zA} : zOpens T c a = .inr x ↔ (T.1 (a_p a) = c ∧ a_o a < 10) ∧ a_p a ≠ 800 ∧ x = (0, aP (aO a (a_o a + 1)) (a_p a + 1)) := by
  unfold zOpens; rw [it_l, zN_inr]; exact Iff.rfl
/-- what waits counts -/
def wN (a : zA) : Nat := if (a_w a).1 = 5 ∨ (a_w a).1 = 15 ∨ (a_w a).1 = 17 then 1 else 0
def nW (a : zA) : Nat := zL a + wN a
/-- names, procs, tries, what is begun: as before -/
def eqx (a b : zA) : Prop := a_k b = a_k a ∧ a_m b = a_m a ∧ a_x b = a_x a ∧ a_q b = a_q a ∧ a_b b = a_b a ∧ a_h b = a_h a ∧ a_c b = a_c a ∧ a_o b = a_o a ∧ a_r b = a_r a
theorem eqx.refl (a : zA) : eqx a a := ⟨rfl, rfl, rfl, rfl, rfl, rfl, rfl, rfl, rfl⟩
theorem eqx.trans {a b c : zA} (h : eqx a b) (k : eqx b c) : eqx a c := by
  obtain ⟨h1, h2, h3, h4, h5, h6, h7, h8, h9⟩ := h
  obtain ⟨k1, k2, k3, k4, k5, k6, k7, k8, k9⟩ := k
  exact ⟨k1.trans h1, k2.trans h2, k3.trans h3, k4.trans h4, k5.trans h5, k6.trans h6, k7.trans h7, k8.trans h8, k9.trans h9⟩
theorem eqx_o {a b c : zA} {n : Nat} (h : eqx (aO a n) b) (hc : eqx (aO b (a_o a)) c) : eqx a c := by
  obtain ⟨h1, h2, h3, h4, h5, h6, h7, h8, h9⟩ := h
  obtain ⟨k1, k2, k3, k4, k5, k6, k7, k8, k9⟩ := hc
  exact ⟨k1.trans h1, k2.trans h2, k3.trans h3, k4.trans h4, k5.trans h5, k6.trans h6, k7.trans h7, k8, k9.trans h9⟩
theorem zL_E {op : Nat} {arg ty pl : Int32} {tgt : Nat} : zL (zE a op arg tgt ty pl) = zL a + 1 := by
  show (a_i a ++ [_]).length = _
  rw [List.length_append]; rfl
theorem eqx_E {op : Nat} {arg ty pl : Int32} {tgt : Nat} : eqx a (zE a op arg tgt ty pl) := eqx.refl a
theorem eqx_reads : eqx a (zReads a) := by
  unfold zReads
  split
  all_goals exact eqx.refl a
theorem p_reads : a_p (zReads a) = a_p a := by
  unfold zReads
  split
  all_goals rfl
theorem w_reads : (zReads a).2.2.1 = (0, 0, 0, 0) := by
  unfold zReads
  split
  all_goals rfl
theorem nW_reads : zL (zReads a) = nW a ∧ nW (zReads a) = nW a := by
  have h0 : ∀ b : zA, a_w b = (0, 0, 0, 0) → nW b = zL b := fun b h => by unfold nW wN; rw [h]; rfl
  have h1 : zL (zReads a) = nW a := by
    unfold zReads nW wN
    by_cases q1 : (a_w a).1 = 5 ∨ (a_w a).1 = 15 ∨ (a_w a).1 = 17
    · rw [if_pos q1, if_pos q1]; exact zL_E
    · rw [if_neg q1, if_neg q1]; rfl
  exact ⟨h1, by rw [h0 _ w_reads]; exact h1⟩
/-- what an expression, or a piece of one, comes to: m items waited, k tokens at least -/
def Dx (n : Nat) (a b : zA) : Prop := eqx a b ∧ a_p a < a_p b ∧ a_p b ≤ 800 ∧ nW b + a_p a ≤ n + a_p b
theorem Dx.trans {n : Nat} {a b c : zA} (h : Dx n a b) (k : Dx (nW b) b c) : Dx n a c := by
  obtain ⟨h1, h2, h3, h4⟩ := h
  obtain ⟨k1, k2, k3, k4⟩ := k
  exact ⟨h1.trans k1, by omega, k3, by omega⟩
/-- what is below may be used as a piece of an expression -/
def SubD (sub : zA → zR) : Prop := ∀ a y b, a_p a ≤ 800 → sub a = .inr (y, b) → Dx (zL a) a b ∧ (b.2.2.1).1 = 0
theorem wN_0 {b : zA} (h : (b.2.2.1).1 = 0) : nW b = zL b := by
  unfold nW wN
  rw [show a_w b = b.2.2.1 from rfl, h]; rfl
theorem zTy_inr {x : Int32 × zA} (h : zTy T a = .inr x) : T.1 (a_p a) = 5 ∧ a_p a ≠ 800 ∧ ((x = (tV T (a_p a), aP a (a_p a + 1)) ∧ (tV T (a_p a) = 36 ∨ T.1 (a_p a + 1) ≠ 91)) ∨ (tV T (a_p a) ≠ 36 ∧ T.1 (a_p a + 1) = 91 ∧ a_p a + 1 ≠ 800 ∧ T.1 (a_p a + 2) = 93 ∧ a_p a + 2 ≠ 800 ∧ x = (18 + tV T (a_p a), aP a (a_p a + 3)))) := by
  unfold zTy at h
  rw [it_l, pb_inr] at h
  obtain ⟨h1, y, b, h2, h3⟩ := h
  obtain ⟨n1, e1⟩ := zN_inr.mp h2
  cases e1
  refine ⟨h1, n1, ?_⟩
  by_cases q : tV T (a_p a) = 36
  · rw [if_pos q] at h3
    cases h3
    exact Or.inl ⟨rfl, Or.inl q⟩
  · rw [if_neg q] at h3
    by_cases q2 : T.1 (a_p (aP a (a_p a + 1))) = 91
    · rw [if_pos q2, pb_inr] at h3
      obtain ⟨y, b, h5, h6⟩ := h3
      obtain ⟨n2, e2⟩ := zN_inr.mp h5
      cases e2
      rw [pb_inr] at h6
      obtain ⟨y, b, h8, h9⟩ := h6
      obtain ⟨n3, n4, e3⟩ := zMust_inr.mp h8
      cases e3
      cases h9
      exact Or.inr ⟨q, q2, n2, n3, n4, rfl⟩
    · rw [if_neg q2] at h3
      cases h3
      exact Or.inl ⟨rfl, Or.inr q2⟩
theorem zFresh_inr {x : Int32 × zA} (h : zFresh T a = .inr x) : T.1 (a_p a) = 3 ∧ kFind (T.2.1 (a_p a)) (a_k a) = none ∧ a_m a ≠ 24 ∧ x = (0, a) := by
  unfold zFresh at h
  rw [it_l] at h
  obtain ⟨h1, h2⟩ := h
  revert h2
  cases hk : kFind (T.2.1 (a_p a)) (a_k a) with
  | some e => intro h2; cases h2
  | none =>
    intro h2
    have h2 : (if a_m a = 24 then .inl (5, a_p a) else .inr (0, a) : zR) = .inr x := h2
    rw [it_r] at h2
    obtain ⟨h3, h4⟩ := h2
    cases h4
    exact ⟨h1, rfl, h3, rfl⟩
theorem zNewN_inr {t : Int32} {x : Int32 × zA} (h : zNewN T t a = .inr x) : T.1 (a_p a) = 3 ∧ kFind (T.2.1 (a_p a)) (a_k a) = none ∧ a_m a ≠ 24 ∧ a_p a ≠ 800 ∧ x = (Int32.ofNat (a_m a), aX (aP a (a_p a + 1)) (some (T.2.1 (a_p a), t))) := by
  unfold zNewN at h
  rw [pb_inr] at h
  obtain ⟨_, a1, h1, h2⟩ := h
  obtain ⟨k1, k2, k3, k4⟩ := zFresh_inr h1
  cases k4
  rw [pb_inr] at h2
  obtain ⟨_, a2, h3, h4⟩ := h2
  obtain ⟨n1, e1⟩ := zN_inr.mp h3
  cases e1
  cases h4
  exact ⟨k1, k2, k3, n1, rfl⟩
end
