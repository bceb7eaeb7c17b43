section
/-! THE CLASS's FIRST TOKEN -/
variable {X : Nat × (Nat → Int32)} {d : Nat} {s σ : sm_S} {ci N : Nat} {O : Nat → Nat → Nat → Int32} {T : zT}
theorem c_pass1 (hN8 : N ≤ 801) (a3 : ∀ j, j ≤ N → σ.1 53 0 j = T.1 j ∧ σ.1 54 0 j = T.2.2.2 j ∧ (T.1 j ≠ 7 → σ.2.1 55 0 j = cvl T j)) (a4 : σ.1 17 0 7 = Int32.ofNat (N + 1)) (a5 : σ.1 15 0 5 = -1) (a10 : σ.1 15 0 11 = 0 ∧ σ.1 15 0 12 = -1) (hr : PR0 ci O zA0 σ) : ∃ σ', sm_callM X true (d + 1) 84 [vP (15, 0)] σ = rV σ' ∧ PC0 ci O T N zA0 σ' := by
  have e5 : (-1 : Int32) + 1 = Int32.ofNat 0 := by decide
  rw [f_X5_pass, q_X5_pass_0, if_pos a10.1, a5, e5]
  rw [if_neg (show ¬ (800 : Int32) < Int32.ofNat 0 by decide), q_X5_pass_34, if_pos a10.1, if_neg (i_nn (by omega)), a4, if_pos (by rw [i_lt (by omega) (by omega)]; omega), q_X5_pass_61, if_neg (by decide), ix_nat (by omega) (by decide), (a3 0 (Nat.zero_le _)).1, q_X5_pass_80, rq_t, if_neg (by decide)]
  have e0 : (sI σ 15 0 6 (T.1 0)).1 17 0 7 = Int32.ofNat (N + 1) := by rw [gI, if_neg (by omega)]; exact a4
  rw [e0, i_s]
  have key : ∀ v : Int32, v = (if 0 < N then T.1 (0 + 1) else 0) → ∃ σ', sm_go (sm_ZZ X) sm_PP true (sm_callM X true d) 84 116 [vP (15, 0), vI (Int32.ofNat 0), vI 1] [vI v, vP (15, 0)] (sI σ 15 0 6 (T.1 0)) = rV σ' ∧ PC0 ci O T N zA0 σ' := by
    intro v hv
    rw [q_X5_pass_116, rq_t, if_neg (by decide), ix_nat (by omega) (by decide), ix_nat (by omega) (by decide)]
    refine ⟨_, rfl, ⟨Nat.zero_le _, Nat.zero_le _, ?_, ?_, ?_, ?_, ?_, ?_, ?_, ?_⟩, ?_⟩
    · intro j hj
      obtain ⟨b1, b2, b3⟩ := a3 j hj
      refine ⟨?_, ?_, fun h7 => ?_⟩
      · rw [gLI, gI, if_neg (by omega), gI, if_neg (by omega), gI, if_neg (by omega), gI, if_neg (by omega)]; exact b1
      · rw [gLI, gI, if_neg (by omega), gI, if_neg (by omega), gI, if_neg (by omega), gI, if_neg (by omega)]; exact b2
      · rw [gL, if_neg (by omega)]; exact b3 h7
    · rw [gLI, gI, if_neg (by omega), gI, if_neg (by omega), gI, if_neg (by omega), gI, if_neg (by omega)]; exact a4
    · rw [gLI, gI, if_neg (by omega), gI, if_pos ⟨rfl, rfl, rfl⟩]; rfl
    · rw [gLI, gI, if_neg (by omega), gI, if_neg (by omega), gI, if_neg (by omega), gI, if_pos ⟨rfl, rfl, rfl⟩]; rfl
    · rw [gLI, gI, if_pos ⟨rfl, rfl, rfl⟩, gI, if_neg (by omega), gI, if_neg (by omega), gI, if_neg (by omega)]; exact (a3 0 (Nat.zero_le _)).2.1
    · intro h7
      rw [gL, if_pos ⟨rfl, rfl, rfl⟩]; exact (a3 0 (Nat.zero_le _)).2.2 h7
    · rw [gLI, gI, if_neg (by omega), gI, if_neg (by omega), gI, if_pos ⟨rfl, rfl, rfl⟩]; exact hv
    · exact ⟨by rw [gLI, gI, if_neg (by omega), gI, if_neg (by omega), gI, if_neg (by omega), gI, if_neg (by omega)]; exact a10.1, by rw [gLI, gI, if_neg (by omega), gI, if_neg (by omega), gI, if_neg (by omega), gI, if_neg (by omega)]; exact a10.2⟩
    · exact PR_L0 (PR_150 (PR_150 (PR_150 (PR_150 hr (by omega)) (by omega)) (by omega)) (by omega))
  by_cases q2 : 0 < N
  · rw [if_pos (by rw [i_lt (by omega) (by omega)]; omega), ix_nat (by omega) (by decide)]
    exact key _ (by rw [if_pos q2, gI, if_neg (by omega)]; exact (a3 _ (by omega)).1)
  · rw [if_neg (by rw [i_lt (by omega) (by omega)]; omega)]
    exact key _ (by rw [if_neg q2])
end
