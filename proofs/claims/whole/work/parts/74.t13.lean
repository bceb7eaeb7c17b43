section
/-! THE TAPE IS CUT, THE REFERENCE's SIDE -/
variable {X : Nat × (Nat → Int32)} {d : Nat} {s σ : sm_S}
theorem mkd_7 (k : Int32) : mkd k = 7 ↔ k = 6 := by
  unfold mkd
  by_cases h : k = 6
  · rw [if_pos h]; simp [h]
  · rw [if_neg h]
    constructor
    · intro q
      exfalso
      revert q
      repeat' split
      all_goals decide
    · intro q; exact absurd q h
theorem mkd_6 (k : Int32) : mkd k = 6 ↔ k = 7 := by
  unfold mkd
  by_cases h : k = 6
  · rw [if_pos h, h]; decide
  · rw [if_neg h]
    by_cases h2 : k = 7
    · rw [if_pos h2]; simp [h2]
    · rw [if_neg h2]
      constructor
      · intro q
        exfalso
        revert q
        repeat' split
        all_goals decide
      · intro q; exact absurd q h2
theorem m_17_d (C : sm_C) (d1 d4 d5 : sm_V) (x2 x3 : Int32) : sm_go (sm_ZZ X) sm_PP true C 196 17 [vP (23, 0), d1, vI x2, vI x3, d4, d5] [] s = sm_go (sm_ZZ X) sm_PP true C 196 17 [vP (23, 0), vU, vI x2, vI x3, vU, vU] [] s := by
  rw [q_X13_scan_17, q_X13_scan_17]
theorem m_skip {R : Nat → Int32} {e : Nat} (h : mp R e σ) (x3 : Int32) : ∀ (f k : Nat), k ≤ e → e ≤ k + f → sm_go (sm_ZZ X) sm_PP true (sm_callM X true (d + 1)) 196 17 [vP (23, 0), vU, vI (Int32.ofNat k), vI x3, vU, vU] [] σ = sm_go (sm_ZZ X) sm_PP true (sm_callM X true (d + 1)) 196 17 [vP (23, 0), vU, vI (Int32.ofNat (k + rl isBl R e f k)), vI x3, vU, vU] [] σ
  | f, k, hk, hf => by
    have he := h.2.2
    by_cases q : k < e ∧ isBl (R k &&& 255) = true
    · obtain ⟨f, rfl⟩ : ∃ g, f = g + 1 := ⟨f - 1, by omega⟩
      have e1 : sm_go (sm_ZZ X) sm_PP true (sm_callM X true (d + 1)) 196 17 [vP (23, 0), vU, vI (Int32.ofNat k), vI x3, vU, vU] [] σ = sm_go (sm_ZZ X) sm_PP true (sm_callM X true (d + 1)) 196 17 [vP (23, 0), vU, vI (Int32.ofNat (k + 1)), vI x3, vU, vU] [] σ := by
        rw [q_X13_scan_17, m_sign h (by omega), bI_r, if_pos q.1, i_s]
        by_cases q1 : R k &&& 255 = 32
        · rw [if_pos q1]
        · have q2 : R k &&& 255 = 10 := by
            have := q.2
            unfold isBl at this
            simp only [Bool.or_eq_true, decide_eq_true_eq] at this
            exact this.resolve_left q1
          rw [if_neg q1, m_sign h (by omega), bI_r, if_pos q.1, if_pos q2]
      rw [e1, m_skip h x3 f (k + 1) (by omega) (by omega), rl_1 q, show k + 1 + rl isBl R e f (k + 1) = k + (rl isBl R e f (k + 1) + 1) by omega]
    · rw [rl_0 q]
      rfl
theorem rl_stop (p : Int32 → Bool) (R : Nat → Int32) (e : Nat) : ∀ f k, k ≤ e → e ≤ k + f → ¬ (k + rl p R e f k < e ∧ p (R (k + rl p R e f k) &&& 255) = true)
  | 0, k, hk, hf, q => by
    have h1 : k + 0 < e := q.1
    omega
  | f + 1, k, hk, hf, q => by
    by_cases z : k < e ∧ p (R k &&& 255) = true
    · rw [rl_1 z, show k + (rl p R e f (k + 1) + 1) = k + 1 + rl p R e f (k + 1) by omega] at q
      exact rl_stop p R e f (k + 1) (by omega) (by omega) q
    · rw [rl_0 z] at q
      exact z q
/-- the first i tokens are cut -/
def tmI (R : Nat → Int32) (e i : Nat) (σ : sm_S) : Prop :=
  (∀ j, j < i → σ.1 68 0 j = mkd (tki R e j).1 ∧ σ.1 69 0 j = Int32.ofNat (tpl R e j) ∧ ((tki R e j).1 ≠ 7 → σ.2.1 70 0 j = tvm (tki R e j))) ∧ mp R e σ
theorem tmI_s {R : Nat → Int32} {e i : Nat} {v : Int64} (h : tmI R e i σ) (hv : (tki R e i).1 ≠ 7 → v = tvm (tki R e i)) : tmI R e (i + 1) (mN σ i (tpl R e i) (mkd (tki R e i).1) v) := by
  obtain ⟨h1, h2⟩ := h
  refine ⟨fun j hj => ?_, mp_N h2⟩
  by_cases q : j = i
  · subst q
    refine ⟨?_, ?_, fun h7 => ?_⟩
    · rw [mN, gI, if_pos ⟨rfl, rfl, rfl⟩]
    · rw [mN, gI, if_neg (by omega), gLI, gI, if_pos ⟨rfl, rfl, rfl⟩]
    · rw [mN, gIL, gL, if_pos ⟨rfl, rfl, rfl⟩]
      exact hv h7
  · obtain ⟨g1, g2, g3⟩ := h1 j (by omega)
    refine ⟨?_, ?_, fun h7 => ?_⟩
    · rw [mN, gI, if_neg (by omega), gLI, gI, if_neg (by omega)]; exact g1
    · rw [mN, gI, if_neg (by omega), gLI, gI, if_neg (by omega)]; exact g2
    · rw [mN, gIL, gL, if_neg (by omega)]
      exact g3 h7
theorem m_scan_12 {R : Nat → Int32} {e N : Nat} (hR : b8 R) (hN : tLast R e N) : ∀ (n i : Nat) (d1 d5 : sm_V) (x4 : Int32) (σ : sm_S), i + n = N + 1 → tmI R e i σ → (x4 = 0 ↔ i = N + 1) → ∃ σ', sm_go (sm_ZZ X) sm_PP true (sm_callM X true (d + 8)) 196 12 [vP (23, 0), d1, vI (Int32.ofNat (tat R e i)), vI (Int32.ofNat i), vI x4, d5] [] σ = rV σ' ∧ tmI R e (N + 1) σ'
  | 0, i, d1, d5, x4, σ, h, hI, hx => by
    have hi : i = N + 1 := by omega
    subst hi
    refine ⟨σ, ?_, hI⟩
    rw [q_X13_scan_12, if_pos (hx.mpr rfl)]
  | n + 1, i, d1, d5, x4, σ, h, hI, hx => by
    have hN0 := hN
    obtain ⟨n1, n2, n3⟩ := hN
    have he := hI.2.2.2
    have ht := tat_le R e i
    rw [q_X13_scan_12, if_neg (fun z => by have := hx.mp z; omega), m_17_d, m_skip (d := d + 7) hI.2 (Int32.ofNat i) (e - tat R e i) (tat R e i) ht (by omega)]
    have hst := rl_stop isBl R e (e - tat R e i) (tat R e i) ht (by omega)
    have htp : tat R e i + rl isBl R e (e - tat R e i) (tat R e i) = tpl R e i := rfl
    rw [htp] at hst ⊢
    have hpl := tpl_le R e i
    have nb : ¬ (if tpl R e i < e then R (tpl R e i) &&& 255 else -1) = 32 ∧ ¬ (if tpl R e i < e then R (tpl R e i) &&& 255 else -1) = 10 := by
      by_cases z : tpl R e i < e
      · rw [if_pos z]
        have : ¬ isBl (R (tpl R e i) &&& 255) = true := fun w => hst ⟨z, w⟩
        unfold isBl at this
        simp only [Bool.or_eq_true, decide_eq_true_eq, not_or] at this
        exact this
      · rw [if_neg z]; decide
    obtain ⟨v, e1, e2⟩ := m_token (X := X) (d := d) hI.2 hR hpl (show i < 803 by omega)
    have e1 : sm_callM X true (d + 8) 197 [vP (23, 0), vI (Int32.ofNat i), vI (Int32.ofNat (tpl R e i))] (sI σ 69 0 i (Int32.ofNat (tpl R e i))) = rI (Int32.ofNat (tki R e i).2.2.2) (mN σ i (tpl R e i) (mkd (tki R e i).1) v) := e1
    rw [q_X13_scan_17, m_sign hI.2 (by omega), bI_r, if_neg nb.1, m_sign hI.2 (by omega), bI_r, if_neg nb.2, ix_nat (by omega) (by decide), e1, bI_r, ix_nat (by omega) (by decide)]
    have ek : (mN σ i (tpl R e i) (mkd (tki R e i).1) v).1 68 0 i = mkd (tki R e i).1 := by rw [mN, gI, if_pos ⟨rfl, rfl, rfl⟩]
    rw [ix_nat (by omega) (by decide), ek, i_add, i_s, ← tat_s]
    have hI' := tmI_s hI e2
    by_cases q7 : mkd (tki R e i).1 = 7
    · rw [if_pos q7]
      have h6 := (mkd_7 _).mp q7
      have hiN : i = N := by
        by_cases z : i < N
        · exact absurd h6 (n2 i z).1
        · omega
      exact m_scan_12 hR hN0 n (i + 1) _ _ 0 _ (by omega) hI' ⟨fun _ => by omega, fun _ => rfl⟩
    · rw [if_neg q7]
      by_cases q6 : mkd (tki R e i).1 = 6
      · rw [if_pos q6]
        have h7 := (mkd_6 _).mp q6
        have hiN : i = N := by
          by_cases z : i < N
          · exact absurd h7 (n2 i z).2
          · omega
        exact m_scan_12 hR hN0 n (i + 1) _ _ 0 _ (by omega) hI' ⟨fun _ => by omega, fun _ => rfl⟩
      · rw [if_neg q6]
        by_cases q8 : 800 < i
        · rw [if_pos (by rw [show (800 : Int32) = Int32.ofNat 800 from rfl, i_lt (by omega) (by omega)]; exact q8)]
          exact m_scan_12 hR hN0 n (i + 1) _ _ 0 _ (by omega) hI' ⟨fun _ => by omega, fun _ => rfl⟩
        · rw [if_neg (by rw [show (800 : Int32) = Int32.ofNat 800 from rfl, i_lt (by omega) (by omega)]; exact q8)]
          refine m_scan_12 hR hN0 n (i + 1) _ _ 1 _ (by omega) hI' ⟨fun z => absurd z (by decide), fun z => ?_⟩
          exfalso
          have hiN : i = N := by omega
          subst hiN
          rcases n3 with w | w | w
          · exact q7 ((mkd_7 _).mpr w)
          · exact q6 ((mkd_6 _).mpr w)
          · omega
/-- THE REFERENCE CUTS THE TAPE -/
theorem m_scan {R : Nat → Int32} {n N : Nat} (hn : n ≤ 3000) (hR : ∀ j, σ.1 67 0 j = R j) (hb : b8 R) (hN : tLast R n N) : ∃ σ', sm_callM X true (d + 9) 196 [vP (23, 0), vI (Int32.ofNat n)] σ = rV σ' ∧ tmI R n (N + 1) σ' := by
  rw [f_X13_scan, q_X13_scan_0]
  refine m_scan_12 hb hN (N + 1) 0 _ _ 1 _ (Nat.zero_add _) ⟨fun j hj => absurd hj (Nat.not_lt_zero j), fun j => ?_, ?_, hn⟩ ⟨fun z => absurd z (by decide), fun z => by omega⟩
  · rw [gI, if_neg (by omega)]; exact hR j
  · rw [gI, if_pos ⟨rfl, rfl, rfl⟩]
end
