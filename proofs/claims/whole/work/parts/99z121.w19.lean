section
/-! THE REFERENCE LOADS A TEXT -/
variable {X : Nat × (Nat → Int32)} {d : Nat} {s σ : sm_S} {mi mj N : Nat} {O : Nat → Nat → Nat → Int32} {T : zT} {a b : zA} {R : Nat → Int32} {e : Nat}
theorem PM0_0 (ht : tmI R e (N + 1) σ) (hc : σ.2.2.1 23 0 7 = (22, mi)) (h1 : σ.1 22 mi 0 = 0) (h2 : σ.1 22 mi 6 = 0) (h3 : σ.1 23 0 11 = 0 ∧ σ.1 23 0 9 = 0 ∧ σ.1 23 0 10 = -1) (ho : OM mi O σ) : PM0 mi O (zTk R e) N zA0 σ := by
  refine ⟨⟨Nat.zero_le _, Nat.zero_le _, fun j hj => ?_, h3⟩, ⟨h2, fun k e hk _ => (by cases hk), fun e he => (by cases he)⟩, ⟨h1, by decide, fun z => absurd rfl z, fun i q hi => (by cases hi)⟩, trivial, ⟨fun z => absurd (show (11 : Nat) ≤ 10 from z) (by decide), fun z => absurd (show (9 : Nat) ≤ 8 from z) (by decide), fun z => absurd (show (5 : Nat) ≤ 4 from z) (by decide), fun z => absurd (show (99 : Nat) = 0 from z) (by decide), fun z => ?_⟩, hc, ho⟩
  · exact ht.1 j (by omega)
  · exfalso
    have z : (99 : Nat) = 5 ∨ (99 : Nat) = 15 ∨ (99 : Nat) = 17 := z
    omega
/-- the text, from a state with names left over -/
theorem m_text0 (hT : TK T N) {f : Nat} (h : PM0 mi O T N a σ) (hi : TI a) (hb : a_b a = (a_q a).length) (hf : 801 ≤ f + 1 + a_p a) : SMV mi O T N (sm_go (sm_ZZ X) sm_PP true (sm_callM X true (d + 406)) 208 21 [vP (23, 0)] [] σ) (zText T (f + 1) a) := by
  rw [q_X13_text_21, zText]
  refine mbVV (m_proc0 (d := d) hT h hi hb) (fun _ a1 σ1 e1 h1 => ?_)
  obtain ⟨hi1, lt1, -⟩ := Proc_T hT hi (PM_len0 h) e1
  rw [PM_ix h1, PM_kd h1]
  by_cases k : T.1 (a_p a1) = 6
  · rw [if_pos ((mkd_v _).2.2.2.1.mpr k), if_pos k]
    exact ⟨_, rfl, h1⟩
  · rw [if_neg (fun z => k ((mkd_v _).2.2.2.1.mp z)), if_neg k]
    exact m_text (d := d) hT f a1 σ1 h1 hi1 (Proc_Q hT hi (PM_len0 h) hb e1) (by omega)
theorem tmI_o {i t j k : Nat} {x : Int32} (h : tmI R e i σ) (ht : t ≠ 68 ∧ t ≠ 69 ∧ t ≠ 67 ∧ ¬ (t = 23 ∧ k = 5)) : ∀ n, n < i → (sI σ t j k x).1 68 0 n = mkd (tki R e n).1 ∧ (sI σ t j k x).1 69 0 n = Int32.ofNat (tpl R e n) ∧ ((tki R e n).1 ≠ 7 → (sI σ t j k x).2.1 70 0 n = tvm (tki R e n)) := by
  intro n hn
  obtain ⟨a1, a2, a3⟩ := h.1 n hn
  exact ⟨by rw [gI, if_neg (by omega)]; exact a1, by rw [gI, if_neg (by omega)]; exact a2, a3⟩
/-- what a load of the reference comes to -/
theorem m_208 (hN : tLast R e N) (h68 : ∀ n, n < N + 1 → σ.1 68 0 n = mkd (tki R e n).1 ∧ σ.1 69 0 n = Int32.ofNat (tpl R e n) ∧ ((tki R e n).1 ≠ 7 → σ.2.1 70 0 n = tvm (tki R e n))) (hc : σ.2.2.1 23 0 7 = (22, mi)) (h9 : σ.1 23 0 9 = 0) (h10 : σ.1 23 0 10 = -1) (ho : OM mi O σ) : SMV mi O (zTk R e) N (sm_callM X true (d + 407) 208 [vP (23, 0)] σ) (zText (zTk R e) 802 zA0) := by
  rw [f_X13_text, q_X13_text_0, hc, rq_t, show (sI σ 22 mi 0 0).2.2.1 23 0 7 = (22, mi) from hc, rq_t]
  refine m_text0 (d := d) (f := 801) (TK_of hN) ?_ TI_0 rfl (by show 801 ≤ 801 + 1 + 0; omega)
  refine ⟨⟨Nat.zero_le _, Nat.zero_le _, fun j hj => ?_, ⟨by rw [gI, if_pos ⟨rfl, rfl, rfl⟩]; rfl, by rw [gI, if_neg (by omega), gI, if_neg (by omega), gI, if_neg (by omega)]; exact h9, by rw [gI, if_neg (by omega), gI, if_neg (by omega), gI, if_neg (by omega)]; exact h10⟩⟩, ⟨by rw [gI, if_neg (by omega), gI, if_pos ⟨rfl, rfl, rfl⟩]; rfl, fun k e hk _ => (by cases hk), fun e he => (by cases he)⟩, ⟨by rw [gI, if_neg (by omega), gI, if_neg (by omega), gI, if_pos ⟨rfl, rfl, rfl⟩]; rfl, by decide, fun z => absurd rfl z, fun i q hi => (by cases hi)⟩, trivial, ⟨fun z => absurd (show (11 : Nat) ≤ 10 from z) (by decide), fun z => absurd (show (9 : Nat) ≤ 8 from z) (by decide), fun z => absurd (show (5 : Nat) ≤ 4 from z) (by decide), fun z => absurd (show (99 : Nat) = 0 from z) (by decide), fun z => ?_⟩, hc, OM_I (OM_I (OM_I ho (fun _ => rfl)) (fun _ => rfl)) (by omega)⟩
  · obtain ⟨a1, a2, a3⟩ := h68 j (by omega)
    exact ⟨by rw [gI, if_neg (by omega), gI, if_neg (by omega), gI, if_neg (by omega)]; exact a1, by rw [gI, if_neg (by omega), gI, if_neg (by omega), gI, if_neg (by omega)]; exact a2, a3⟩
  · exfalso
    have z : (99 : Nat) = 5 ∨ (99 : Nat) = 15 ∨ (99 : Nat) = 17 := z
    omega
end
