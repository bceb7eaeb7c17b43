section
/-! REFERENCES AS NUMBERS; WHAT IS BELOW WHAT -/
theorem rfR_neg {n : Nat} (h : n < 1000) : rfR n < 0 := by
  unfold rfR
  rw [Int32.lt_iff_toInt_lt, Int32.toInt_neg, Int32.toInt_ofNat_of_lt (by omega)]
  rw [show (0 : Int32).toInt = 0 from rfl, Int.bmod_def]
  omega
theorem ixR_rf {n : Nat} (h : n < 1000) : ixR (rfR n) = n := by
  unfold ixR rfR
  rw [Int32.neg_neg, i_tn (by omega)]; omega
theorem rfV_pos {n : Nat} (h : n < 1000) : ¬ rfV n < 0 ∧ rfV n ≠ 0 ∧ 0 < rfV n := by
  unfold rfV
  refine ⟨i_nn (by omega), ?_, ?_⟩
  · rw [show (0 : Int32) = Int32.ofNat 0 from rfl, Ne, i_eq (by omega) (by omega)]; omega
  · rw [show (0 : Int32) = Int32.ofNat 0 from rfl, i_lt (by omega) (by omega)]; omega
theorem ixV_rf {n : Nat} (h : n < 1000) : ixV (rfV n) = n := by
  unfold ixV rfV
  rw [i_tn (by omega)]; omega
theorem rfR_ne {n : Nat} (h : n < 1000) : rfR n ≠ 0 := by
  intro z
  have := rfR_neg h
  rw [z] at this
  exact absurd this (by decide)
theorem bel_tr : ∀ a, a < 18 → ∀ b, b < 18 → ∀ c, c < 18 → cBel (Int32.ofNat a) (Int32.ofNat b) = 1 → cBel (Int32.ofNat b) (Int32.ofNat c) = 1 → cBel (Int32.ofNat a) (Int32.ofNat c) = 1 := by decide +kernel
theorem bel_row : ∀ a, a < 18 → ∀ b, b < 18 → cBel (Int32.ofNat (18 + a)) (Int32.ofNat (18 + b)) = cBel (Int32.ofNat a) (Int32.ofNat b) ∧ cBel (Int32.ofNat (18 + a)) (Int32.ofNat b) = 0 ∧ cBel (Int32.ofNat a) (Int32.ofNat (18 + b)) = 0 := by decide +kernel
theorem bel_rng {t u : Int32} (h : cBel t u = 1) : (∃ a, a < 36 ∧ t = Int32.ofNat a) ∧ ∃ b, b < 36 ∧ u = Int32.ofNat b := by
  have key : ∀ x : Int32, ¬ x < 0 → x < 36 → ∃ a, a < 36 ∧ x = Int32.ofNat a := fun x h1 h2 => i32_nat (n := 36) (by decide) h1 h2
  unfold cBel at h
  by_cases h1 : t < 0
  · rw [if_pos h1] at h; exact absurd h (by decide)
  · rw [if_neg h1] at h
    by_cases h2 : t < 36
    · rw [if_pos h2] at h
      by_cases h3 : u < 0
      · rw [if_pos h3] at h; exact absurd h (by decide)
      · rw [if_neg h3] at h
        by_cases h4 : u < 36
        · exact ⟨key t h1 h2, key u h3 h4⟩
        · rw [if_neg h4] at h; exact absurd h (by decide)
    · rw [if_neg h2] at h; exact absurd h (by decide)
end
