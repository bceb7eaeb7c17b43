section
/-! THE TAPE IS CUT, THE CLASS's SIDE -/
variable {X : Nat × (Nat → Int32)} {d : Nat} {s σ : sm_S}
theorem tok_len {R : Nat → Int32} {e p : Nat} (h : p ≤ e) : p + (tok R e p).2.2.2 ≤ e := by
  have h1 := rl_le isSD R e (e - p) p h
  have h2 := rl_le isCb R e (e - p) p h
  have h3 := rl_le isDb R e (e - p) p h
  unfold tok
  repeat' split
  all_goals dsimp only
  all_goals omega
/-- where the tape is looked at ahead of token i; where token i begins; token i -/
def tat (R : Nat → Int32) (e : Nat) : Nat → Nat
  | 0 => 0
  | i + 1 => tat R e i + rl isBl R e (e - tat R e i) (tat R e i) + (tok R e (tat R e i + rl isBl R e (e - tat R e i) (tat R e i))).2.2.2
def tpl (R : Nat → Int32) (e i : Nat) : Nat := tat R e i + rl isBl R e (e - tat R e i) (tat R e i)
def tki (R : Nat → Int32) (e i : Nat) : Int32 × List Int32 × Int64 × Nat := tok R e (tpl R e i)
theorem tat_s (R : Nat → Int32) (e i : Nat) : tat R e (i + 1) = tpl R e i + (tki R e i).2.2.2 := rfl
theorem tat_le (R : Nat → Int32) (e : Nat) : ∀ i, tat R e i ≤ e
  | 0 => Nat.zero_le _
  | i + 1 => tok_len (rl_le isBl R e _ _ (tat_le R e i))
theorem tpl_le (R : Nat → Int32) (e i : Nat) : tpl R e i ≤ e := rl_le isBl R e _ _ (tat_le R e i)
/-- N is the last token: the end, what is none, or the 802nd -/
def tLast (R : Nat → Int32) (e N : Nat) : Prop := N ≤ 801 ∧ (∀ i, i < N → (tki R e i).1 ≠ 6 ∧ (tki R e i).1 ≠ 7) ∧ ((tki R e N).1 = 6 ∨ (tki R e N).1 = 7 ∨ N = 801)
theorem tLast_ex (R : Nat → Int32) (e : Nat) : ∃ N, tLast R e N := by
  have key : ∀ n, n ≤ 801 → (∃ N, N < n ∧ tLast R e N) ∨ ∀ i, i < n → (tki R e i).1 ≠ 6 ∧ (tki R e i).1 ≠ 7 := by
    intro n
    induction n with
    | zero => exact fun _ => Or.inr fun i hi => absurd hi (Nat.not_lt_zero i)
    | succ n ih =>
      intro hn
      rcases ih (by omega) with ⟨N, h1, h2⟩ | h
      · exact Or.inl ⟨N, by omega, h2⟩
      · by_cases h6 : (tki R e n).1 = 6
        · exact Or.inl ⟨n, by omega, by omega, h, Or.inl h6⟩
        · by_cases h7 : (tki R e n).1 = 7
          · exact Or.inl ⟨n, by omega, by omega, h, Or.inr (Or.inl h7)⟩
          · refine Or.inr fun i hi => ?_
            by_cases q : i = n
            · rw [q]; exact ⟨h6, h7⟩
            · exact h i (by omega)
  rcases key 801 (Nat.le_refl _) with ⟨N, -, h⟩ | h
  · exact ⟨N, h⟩
  · exact ⟨801, Nat.le_refl _, h, Or.inr (Or.inr rfl)⟩
/-- the first i tokens are cut -/
def tcI (R : Nat → Int32) (e i : Nat) (σ : sm_S) : Prop :=
  (∀ j, j < i → σ.1 53 0 j = (tki R e j).1 ∧ σ.1 54 0 j = Int32.ofNat (tpl R e j) ∧ ((tki R e j).1 ≠ 7 → σ.2.1 55 0 j = tvc (tki R e j))) ∧ σ.1 17 0 7 = Int32.ofNat i ∧ tp R e (tat R e i) σ
theorem tcI_s {R : Nat → Int32} {e i : Nat} {v : Int64} (h : tcI R e i σ) (hv : (tki R e i).1 ≠ 7 → v = tvc (tki R e i)) :
    tcI R e (i + 1) (sI (sI (tN_ σ i (tpl R e i) v (tat R e (i + 1))) 53 0 i (tki R e i).1) 17 0 7 (Int32.ofNat (i + 1))) := by
  obtain ⟨h1, h2, h3⟩ := h
  refine ⟨fun j hj => ?_, ?_, ?_⟩
  · by_cases q : j = i
    · subst q
      refine ⟨?_, ?_, fun h7 => ?_⟩
      · rw [gI, if_neg (by omega), gI, if_pos ⟨rfl, rfl, rfl⟩]
      · rw [gI, if_neg (by omega), gI, if_neg (by omega), tN_, gI, if_neg (by omega), gLI, gI, if_pos ⟨rfl, rfl, rfl⟩]
      · rw [gIL, gIL]
        show (sL (sI σ 54 0 j (Int32.ofNat (tpl R e j))) 55 0 j v).2.1 55 0 j = _
        rw [gL, if_pos ⟨rfl, rfl, rfl⟩]
        exact hv h7
    · obtain ⟨g1, g2, g3⟩ := h1 j (by omega)
      refine ⟨?_, ?_, fun h7 => ?_⟩
      · rw [gI, if_neg (by omega), gI, if_neg (by omega), tN_, gI, if_neg (by omega), gLI, gI, if_neg (by omega)]; exact g1
      · rw [gI, if_neg (by omega), gI, if_neg (by omega), tN_, gI, if_neg (by omega), gLI, gI, if_neg (by omega)]; exact g2
      · rw [gIL, gIL]
        show (sL (sI σ 54 0 i (Int32.ofNat (tpl R e i))) 55 0 i v).2.1 55 0 j = _
        rw [gL, if_neg (by omega)]
        exact g3 h7
  · rw [gI, if_pos ⟨rfl, rfl, rfl⟩]
  · have h4 := tp_N (i := i) (p := tpl R e i) (v := v) h3 (tat_le R e (i + 1))
    obtain ⟨g1, g2, g3, g4, g5⟩ := h4
    refine ⟨fun j => ?_, ?_, ?_, g4, g5⟩
    · rw [gI, if_neg (by omega), gI, if_neg (by omega)]; exact g1 j
    · rw [gI, if_neg (by omega), gI, if_neg (by omega)]; exact g2
    · rw [gI, if_neg (by omega), gI, if_neg (by omega)]; exact g3
theorem c_cut_25 {R : Nat → Int32} {e N : Nat} (hN : tLast R e N) : ∀ (n i : Nat) (x2 : Int32) (d1 : sm_V) (σ : sm_S), i + n = N + 1 → tcI R e i σ → (x2 = 6 ∨ x2 = 7 ↔ i = N + 1 ∧ ((tki R e N).1 = 6 ∨ (tki R e N).1 = 7)) → ∃ σ', sm_go (sm_ZZ X) sm_PP true (sm_callM X true (d + 7)) 132 25 [vP (17, 0), d1, vI x2, vI (Int32.ofNat i)] [] σ = rV σ' ∧ tcI R e (N + 1) σ'
  | 0, i, x2, d1, σ, h, hI, hx => by
    obtain ⟨n1, n2, n3⟩ := hN
    have hi : i = N + 1 := by omega
    subst hi
    refine ⟨σ, ?_, hI⟩
    rw [q_X7_cut_25]
    by_cases q : N + 1 < 802
    · rw [if_pos (by rw [show (802 : Int32) = Int32.ofNat 802 from rfl, i_lt (by omega) (by omega)]; exact q)]
      have h67 : x2 = 6 ∨ x2 = 7 := hx.mpr ⟨rfl, n3.elim Or.inl (fun z => z.elim Or.inr (fun z => by omega))⟩
      by_cases q6 : x2 = 6
      · rw [if_pos q6]
      · rw [if_neg q6, if_pos (h67.resolve_left q6)]
    · rw [if_neg (by rw [show (802 : Int32) = Int32.ofNat 802 from rfl, i_lt (by omega) (by omega)]; exact q)]
  | n + 1, i, x2, d1, σ, h, hI, hx => by
    have hN0 := hN
    obtain ⟨n1, n2, n3⟩ := hN
    have h67 : ¬ (x2 = 6 ∨ x2 = 7) := fun z => by have := (hx.mp z).1; omega
    obtain ⟨v, e1, e2⟩ := c_cutToken (X := X) (d := d) (i := i) hI.2.2 (by omega)
    have e1 : sm_callM X true (d + 7) 139 [vP (17, 0), vI (Int32.ofNat i)] σ = rI (tki R e i).1 (tN_ σ i (tpl R e i) v (tat R e (i + 1))) := e1
    rw [q_X7_cut_25, if_pos (by rw [show (802 : Int32) = Int32.ofNat 802 from rfl, i_lt (by omega) (by omega)]; omega), if_neg (fun z => h67 (Or.inl z)), if_neg (fun z => h67 (Or.inr z)), e1, bI_r, ix_nat (by omega) (by decide)]
    have e3 : (sI (tN_ σ i (tpl R e i) v (tat R e (i + 1))) 53 0 i (tki R e i).1).1 17 0 7 = Int32.ofNat i := by
      rw [gI, if_neg (by omega), tN_, gI, if_neg (by omega), gLI, gI, if_neg (by omega)]; exact hI.2.1
    rw [e3, i_s]
    refine c_cut_25 hN0 n (i + 1) _ _ _ (by omega) (tcI_s hI e2) ?_
    constructor
    · intro z
      by_cases q : i < N
      · exact absurd z (fun z => z.elim (n2 i q).1 (n2 i q).2)
      · have : i = N := by omega
        subst this
        exact ⟨rfl, z⟩
    · rintro ⟨z1, z2⟩
      have : i = N := by omega
      subst this
      exact z2
/-- THE CLASS CUTS THE TAPE -/
theorem c_cut {R : Nat → Int32} {n N : Nat} (hn : n ≤ 3000) (hR : ∀ j, σ.1 52 0 j = R j) (hN : tLast R n N) : ∃ σ', sm_callM X true (d + 8) 132 [vP (17, 0), vI (Int32.ofNat n)] σ = rV σ' ∧ tcI R n (N + 1) σ' := by
  rw [f_X7_cut, q_X7_cut_0, j_min, bI_r]
  have e : (if (3000 : Int32) < Int32.ofNat n then (3000 : Int32) else Int32.ofNat n) = Int32.ofNat n := by
    rw [if_neg (by rw [show (3000 : Int32) = Int32.ofNat 3000 from rfl, i_lt (by omega) (by omega)]; omega)]
  rw [e]
  refine c_cut_25 hN (N + 1) 0 3 _ _ (Nat.zero_add _) ⟨fun j hj => absurd hj (Nat.not_lt_zero j), ?_, fun j => ?_, ?_, ?_, hn, Nat.zero_le _⟩ ?_
  · rw [gI, if_pos ⟨rfl, rfl, rfl⟩]; rfl
  · rw [gI, if_neg (by omega), gI, if_neg (by omega), gI, if_neg (by omega)]; exact hR j
  · rw [gI, if_neg (by omega), gI, if_neg (by omega), gI, if_pos ⟨rfl, rfl, rfl⟩]
  · rw [gI, if_neg (by omega), gI, if_pos ⟨rfl, rfl, rfl⟩]; rfl
  · constructor
    · intro z; exact absurd z (by decide)
    · rintro ⟨z, -⟩; omega
end
