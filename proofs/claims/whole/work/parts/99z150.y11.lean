section
/-! WHAT A VALUE OF A TYPE IS -/
variable {W W' : zW} {t u c x : Int32} {v n i j k : Nat}
theorem bel_refl : ∀ a, a < 36 → cBel (Int32.ofNat a) (Int32.ofNat a) = 1 := by decide +kernel
theorem VT_i : VT W 36 c := Or.inl rfl
theorem VT_0 : VT W t 0 := Or.inr (Or.inr (Or.inl rfl))
theorem VT_r (h : VT W t c) (h18 : ¬ t < 18) (h36 : t < 36) (hc : c ≠ 0) : ∃ n k, n < (w_r W).length ∧ c = rfR n ∧ k < 18 ∧ (rowAt W n).1 = Int32.ofNat k ∧ cBel (Int32.ofNat (18 + k)) t = 1 := by
  rcases h with h | h | h | ⟨h, -⟩ | ⟨-, -, h⟩
  · rw [h] at h36; exact absurd h36 (by decide)
  · rw [h] at h36; exact absurd h36 (by decide)
  · exact absurd h hc
  · exact absurd h h18
  · exact h
theorem VT_v (h : VT W t c) (h18 : t < 18) (hc : c ≠ 0) : ∃ v k, v < (w_v W).length ∧ c = rfV v ∧ k < 13 ∧ (vehAt W v).1 = Int32.ofNat k ∧ cBel (Int32.ofNat k) t = 1 := by
  rcases h with h | h | h | ⟨-, h⟩ | ⟨h, -⟩
  · rw [h] at h18; exact absurd h18 (by decide)
  · rw [h] at h18; exact absurd h18 (by decide)
  · exact absurd h hc
  · exact h
  · exact absurd h18 h
theorem VT_ref (h : VT W t c) (hr : cRef t = 1) (hc : c ≠ 0) : (∃ v k, v < (w_v W).length ∧ c = rfV v ∧ k < 13 ∧ (vehAt W v).1 = Int32.ofNat k) ∨ (∃ n k, n < (w_r W).length ∧ c = rfR n ∧ k < 18 ∧ (rowAt W n).1 = Int32.ofNat k) := by
  rcases h with h | h | h | ⟨-, v, k, h1, h2, h3, h4, -⟩ | ⟨-, -, v, k, h1, h2, h3, h4, -⟩
  · rw [h] at hr; exact absurd hr (by decide)
  · rw [h] at hr; exact absurd hr (by decide)
  · exact absurd h hc
  · exact Or.inl ⟨v, k, h1, h2, h3, h4⟩
  · exact Or.inr ⟨v, k, h1, h2, h3, h4⟩
theorem VT_mkv (h1 : v < (w_v W).length) (h2 : k < 13) (h3 : (vehAt W v).1 = Int32.ofNat k) (hb : cBel (Int32.ofNat k) u = 1) : VT W u (rfV v) := by
  obtain ⟨-, b, hb', rfl⟩ := bel_rng hb
  have hb18 : b < 18 := by
    rcases Nat.lt_or_ge b 18 with z | z
    · exact z
    · exfalso
      have := (bel_row k (by omega) (b - 18) (by omega)).2.2
      rw [show 18 + (b - 18) = b by omega, hb] at this
      exact absurd this (by decide)
  exact Or.inr (Or.inr (Or.inr (Or.inl ⟨(lt18 hb').mpr hb18, v, k, h1, rfl, h2, h3, hb⟩)))
theorem VT_mkr (h1 : n < (w_r W).length) (h2 : k < 18) (h3 : (rowAt W n).1 = Int32.ofNat k) (hb : cBel (Int32.ofNat (18 + k)) u = 1) : VT W u (rfR n) := by
  obtain ⟨-, b, hb', rfl⟩ := bel_rng hb
  have hb18 : 18 ≤ b := by
    rcases Nat.lt_or_ge b 18 with z | z
    · exfalso
      have := (bel_row k h2 b z).2.1
      rw [hb] at this
      exact absurd this (by decide)
    · exact z
  refine Or.inr (Or.inr (Or.inr (Or.inr ⟨fun z => by have := (lt18 hb').mp z; omega, ?_, n, k, h1, rfl, h2, h3, hb⟩)))
  rw [show (37 : Int32) = Int32.ofNat 37 from rfl, Ne, i_eq (by omega) (by omega)]; omega
theorem tyOf_v (h : v < 1000) : tyOf W (rfV v) = (vehAt W v).1 := by
  unfold tyOf; rw [if_neg (rfV_pos h).1, ixV_rf h]
theorem tyOf_r (h : n < 1000) : tyOf W (rfR n) = 18 + (rowAt W n).1 := by
  unfold tyOf; rw [if_pos (rfR_neg h), ixR_rf h]
theorem o18 : (18 : Int32) + Int32.ofNat k = Int32.ofNat (18 + k) := by rw [Int32.ofNat_add]; rfl
/-- what is as it is asked is of the type that was asked -/
theorem VT_ty (hW : WW W) (h : VT W t c) (hr : cRef t = 1) (hc : c ≠ 0) (hb : cBel (tyOf W c) u = 1) : VT W u c := by
  have a1 := hW.1.1
  have a2 := hW.1.2.1
  rcases VT_ref h hr hc with ⟨v, k, h1, rfl, h3, h4⟩ | ⟨n, k, h1, rfl, h3, h4⟩
  · rw [tyOf_v (by omega), h4] at hb
    exact VT_mkv h1 h3 h4 hb
  · rw [tyOf_r (by omega), h4, o18] at hb
    exact VT_mkr h1 h3 h4 hb
theorem cAsk_ref (h : cAsk t u = 1) : cRef t = 1 := by
  unfold cAsk at h
  by_cases q : cRef t = 0
  · rw [if_pos q] at h; exact absurd h (by decide)
  · revert q
    unfold cRef
    repeat' split
    all_goals first | (intro _; rfl) | (intro q; exact absurd rfl q)
/-- what is at a place of a row of type t -/
theorem cOk_VT (hk : k < 18) (h : cOk W k c) (hb : cBel (Int32.ofNat (18 + k)) t = 1) : VT W (t - 18) c := by
  rcases h with h | ⟨v, j, h1, h2, h3, h4, h5⟩
  · rw [h]; exact VT_0
  · obtain ⟨-, b, hb', rfl⟩ := bel_rng hb
    have hb18 : 18 ≤ b := by
      rcases Nat.lt_or_ge b 18 with z | z
      · exfalso
        have := (bel_row k hk b z).2.1
        rw [hb] at this
        exact absurd this (by decide)
      · exact z
    obtain ⟨b', rfl⟩ : ∃ b', b = 18 + b' := ⟨b - 18, by omega⟩
    rw [show (Int32.ofNat (18 + b') : Int32) - 18 = Int32.ofNat b' from i_sub (p := 18), h2]
    rw [(bel_row k hk b' (by omega)).1] at hb
    exact VT_mkv h1 h3 h4 (bel_tr j (by omega) k hk b' (by omega) h5 hb)
theorem VT_cOk (hW : WW W) (h : VT W t c) (ht : t < 18) (hn : n < (w_r W).length) (hf : fitsR W n c) : ∃ k, k < 18 ∧ (rowAt W n).1 = Int32.ofNat k ∧ cOk W k c := by
  obtain ⟨k, k1, k2, -⟩ := hW.2.2.1 n hn
  refine ⟨k, k1, k2, ?_⟩
  by_cases hc : c = 0
  · exact Or.inl hc
  · obtain ⟨v, j, h1, h2, h3, h4, -⟩ := VT_v h ht hc
    have a1 := hW.1.1
    rcases hf with z | z
    · exact absurd z hc
    · rw [h2, ixV_rf (by omega), h4, k2] at z
      exact Or.inr ⟨v, j, h1, h2, h3, h4, z⟩
end
