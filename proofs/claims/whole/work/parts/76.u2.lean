section
variable {X : Nat × (Nat → Int32)} {d : Nat} {s σ : sm_S} {O : Nat → Nat → Nat → Int32}
theorem c_isProc {ci n : Nat} (x : Int32) (h : σ.1 10 ci 9 = Int32.ofNat n) : sm_callM X true (d + 1) 3 [vP (10, ci), vI x] σ = rI (if x < 0 then 0 else if x < Int32.ofNat n then 1 else 0) σ := by
  rw [f_X0_isProc, q_X0_isProc_0, h]
  repeat' split
  all_goals rfl
theorem c_isOwnProc {ci n : Nat} (x : Int32) (h : σ.1 10 ci 9 = Int32.ofNat n) : sm_callM X true (d + 1) 4 [vP (10, ci), vI x] σ = rI (if x < 5 then 0 else if x < Int32.ofNat n then 1 else 0) σ := by
  rw [f_X0_isOwnProc, q_X0_isOwnProc_0, h]
  repeat' split
  all_goals rfl
theorem i32_ge5 {x : Int32} (h : ¬ x < 5) : ¬ x < 0 := fun q => h (by
  have e1 := Int32.lt_iff_toInt_lt.mp q
  apply Int32.lt_iff_toInt_lt.mpr
  have e2 : (0 : Int32).toInt = 0 := rfl
  have e3 : (5 : Int32).toInt = 5 := rfl
  omega)
theorem i32_5 {p : Nat} (hp : p < 2 ^ 31) (h : ¬ Int32.ofNat p < 5) : 5 ≤ p := by
  rw [show (5 : Int32) = Int32.ofNat 5 from rfl, i_lt hp (by omega)] at h
  omega
theorem ci_ownProcs {ci : Nat} (h : CI ci O σ) : ∃ n, n ≤ 12 ∧ sm_callM X true (d + 1) 2 [vP (10, ci)] σ = rI (Int32.ofNat n) σ ∧ σ.1 10 ci 9 = Int32.ofNat (5 + n) := by
  obtain ⟨n, h5, h17, e⟩ := h.2.2.1
  refine ⟨n - 5, by omega, ?_, by rw [show 5 + (n - 5) = n by omega]; exact e⟩
  rw [f_X0_ownProcs, q_X0_ownProcs_0, e, show n = 5 + (n - 5) by omega, show (5 : Int32) = Int32.ofNat 5 from rfl, i_sub, show 5 + (n - 5) - 5 = n - 5 by omega]
theorem ci_addProc {ci : Nat} (h : CI ci O σ) : ∃ y σ', sm_callM X true (d + 1) 5 [vP (10, ci)] σ = rI y σ' ∧ CI ci O σ' ∧ KR σ σ' := by
  obtain ⟨n, h5, h17, e⟩ := h.2.2.1
  rw [f_X0_addProc, q_X0_addProc_0, e]
  by_cases q : n < 17
  · have e1 : (sI σ 35 ci n (σ.1 10 ci 11)).1 10 ci 9 = Int32.ofNat n := by rw [gI, if_neg (by omega)]; exact e
    have e2 : (sI (sI σ 35 ci n (σ.1 10 ci 11)) 36 ci n 0).1 10 ci 9 = Int32.ofNat n := by rw [gI, if_neg (by omega)]; exact e1
    have e3 : (sI (sI (sI σ 35 ci n (σ.1 10 ci 11)) 36 ci n 0) 38 ci n 38).1 10 ci 9 = Int32.ofNat n := by rw [gI, if_neg (by omega)]; exact e2
    rw [if_pos (by rw [show (17 : Int32) = Int32.ofNat 17 from rfl, i_lt (by omega) (by omega)]; exact q), ix_nat q (by decide), e1, ix_nat q (by decide), e2, ix_nat q (by decide), e3, i_s]
    exact ⟨_, _, rfl, CI_procs (CI_o (CI_pc (n := 0) (CI_o h (by omega) (by omega) (by omega) (by omega) (by omega)) (by omega)) (by omega) (by omega) (by omega) (by omega) (by omega)) (by omega) (by omega), (((KR_I (by omega)).trans (KR_I (by omega))).trans (KR_I (by omega))).trans (KR_I (by omega))⟩
  · rw [if_neg (by rw [show (17 : Int32) = Int32.ofNat 17 from rfl, i_lt (by omega) (by omega)]; exact q)]
    exact ⟨_, _, rfl, h, KR.refl _⟩
theorem i_mul {a b : Nat} : Int32.ofNat a * Int32.ofNat b = Int32.ofNat (a * b) := (Int32.ofNat_mul a b).symm
theorem ci_addParameter {ci : Nat} (x y : Int32) (h : CI ci O σ) : ∃ σ', sm_callM X true (d + 2) 6 [vP (10, ci), vI x, vI y] σ = rV σ' ∧ CI ci O σ' ∧ KR σ σ' := by
  obtain ⟨n, h5, h17, e⟩ := h.2.2.1
  rw [f_X0_addParameter, q_X0_addParameter_0, c_isOwnProc x e, bI_r]
  by_cases q1 : x < 5
  · rw [if_pos q1, if_pos rfl]; exact ⟨σ, rfl, h, KR.refl _⟩
  · rw [if_neg q1]
    by_cases q2 : x < Int32.ofNat n
    · obtain ⟨p, hp, rfl⟩ := i32_nat (n := n) (by omega) (i32_ge5 q1) q2
      have hp5 := i32_5 (p := p) (by omega) q1
      obtain ⟨c, hc, ec⟩ := h.2.2.2.2.2.2.1 p (by omega)
      rw [if_pos q2, if_neg (by decide), ix_nat (by omega) (by decide), ec]
      by_cases q3 : c < 4
      · rw [if_pos (by rw [show (4 : Int32) = Int32.ofNat 4 from rfl, i_lt (by omega) (by omega)]; exact q3), ix_nat (by omega) (by decide), ec, show (4 : Int32) = Int32.ofNat 4 from rfl, i_mul, i_add, ix_nat (by omega) (by decide), ix_nat (by omega) (by decide), ix_nat (by omega) (by decide), show (sI σ 37 ci (p * 4 + c) y).1 36 ci p = Int32.ofNat c by rw [gI, if_neg (by omega)]; exact ec, i_s]
        exact ⟨_, rfl, CI_pc (CI_o h (by omega) (by omega) (by omega) (by omega) (by omega)) (by omega), (KR_I (by omega)).trans (KR_I (by omega))⟩
      · rw [if_neg (by rw [show (4 : Int32) = Int32.ofNat 4 from rfl, i_lt (by omega) (by omega)]; exact q3)]
        exact ⟨σ, rfl, h, KR.refl _⟩
    · rw [if_neg q2, if_pos rfl]; exact ⟨σ, rfl, h, KR.refl _⟩
theorem ci_setGiven {ci : Nat} (x y : Int32) (h : CI ci O σ) : ∃ σ', sm_callM X true (d + 2) 7 [vP (10, ci), vI x, vI y] σ = rV σ' ∧ CI ci O σ' ∧ KR σ σ' := by
  obtain ⟨n, h5, h17, e⟩ := h.2.2.1
  rw [f_X0_setGiven, q_X0_setGiven_0, c_isOwnProc x e, bI_r]
  by_cases q1 : x < 5
  · rw [if_pos q1, if_pos rfl]; exact ⟨σ, rfl, h, KR.refl _⟩
  · rw [if_neg q1]
    by_cases q2 : x < Int32.ofNat n
    · obtain ⟨p, hp, rfl⟩ := i32_nat (n := n) (by omega) (i32_ge5 q1) q2
      have hp5 := i32_5 (p := p) (by omega) q1
      rw [if_pos q2, if_neg (by decide), ix_nat (by omega) (by decide)]
      exact ⟨_, rfl, CI_o h (by omega) (by omega) (by omega) (by omega) (by omega), KR_I (by omega)⟩
    · rw [if_neg q2, if_pos rfl]; exact ⟨σ, rfl, h, KR.refl _⟩
/-- how many parameters: at most four; the state stays -/
theorem ci_parameterCount {ci : Nat} (x : Int32) (h : CI ci O σ) : ∃ c, c ≤ 4 ∧ sm_callM X true (d + 2) 8 [vP (10, ci), vI x] σ = rI (Int32.ofNat c) σ ∧ (¬ c = 0 → ∃ p, p < 17 ∧ x = Int32.ofNat p) := by
  obtain ⟨n, h5, h17, e⟩ := h.2.2.1
  rw [f_X0_parameterCount, q_X0_parameterCount_0, c_isProc x e, bI_r]
  by_cases q1 : x < 0
  · rw [if_pos q1, if_pos rfl]; exact ⟨0, by omega, rfl, fun z => absurd rfl z⟩
  · rw [if_neg q1]
    by_cases q2 : x < Int32.ofNat n
    · obtain ⟨p, hp, rfl⟩ := i32_nat (n := n) (by omega) q1 q2
      obtain ⟨c, hc, ec⟩ := h.2.2.2.2.2.2.1 p (by omega)
      rw [if_pos q2, if_neg (by decide), ix_nat (by omega) (by decide), ec]
      exact ⟨c, hc, rfl, fun _ => ⟨p, by omega, rfl⟩⟩
    · rw [if_neg q2, if_pos rfl]; exact ⟨0, by omega, rfl, fun z => absurd rfl z⟩
theorem ci_parameter {ci : Nat} (x y : Int32) (h : CI ci O σ) : ∃ z, sm_callM X true (d + 3) 9 [vP (10, ci), vI x, vI y] σ = rI z σ := by
  have t0 : sm_go (sm_ZZ X) sm_PP true (sm_callM X true (d + 2)) 9 18 [vP (10, ci), vI x, vI y, vU] [vI 0] σ = rI 38 σ := by rw [q_X0_parameter_18, if_pos rfl]
  rw [f_X0_parameter, q_X0_parameter_0]
  by_cases q1 : y < 0
  · rw [if_pos q1, t0]; exact ⟨_, rfl⟩
  · rw [if_neg q1]
    obtain ⟨c, hc, e1, e2⟩ := ci_parameterCount (X := X) (d := d) x h
    rw [e1, bI_r]
    by_cases q2 : y < Int32.ofNat c
    · obtain ⟨k, hk, rfl⟩ := i32_nat (n := c) (by omega) q1 q2
      obtain ⟨p, hp, rfl⟩ := e2 (by omega)
      rw [if_pos q2, q_X0_parameter_18, if_neg (by decide), show (4 : Int32) = Int32.ofNat 4 from rfl, i_mul, i_add, ix_nat (by omega) (by decide)]
      exact ⟨_, rfl⟩
    · rw [if_neg q2, t0]; exact ⟨_, rfl⟩
theorem ci_given {ci : Nat} (x : Int32) (h : CI ci O σ) : ∃ z, sm_callM X true (d + 2) 10 [vP (10, ci), vI x] σ = rI z σ := by
  obtain ⟨n, h5, h17, e⟩ := h.2.2.1
  rw [f_X0_given, q_X0_given_0, c_isProc x e, bI_r]
  by_cases q1 : x < 0
  · rw [if_pos q1, if_pos rfl]; exact ⟨_, rfl⟩
  · rw [if_neg q1]
    by_cases q2 : x < Int32.ofNat n
    · obtain ⟨p, hp, rfl⟩ := i32_nat (n := n) (by omega) q1 q2
      rw [if_pos q2, if_neg (by decide), ix_nat (by omega) (by decide)]
      exact ⟨_, rfl⟩
    · rw [if_neg q2, if_pos rfl]; exact ⟨_, rfl⟩
/-! names -/
theorem ci_nclear {ci : Nat} (h : CI ci O σ) : ∃ σ', sm_callM X true (d + 1) 73 [vP (14, 0)] σ = rV σ' ∧ CI ci O σ' ∧ KR σ σ' := by
  rw [f_X4_clear, q_X4_clear_0]
  exact ⟨_, rfl, CI_known (n := 0) (CI_made (n := 0) h (by omega)) (by omega), (KR_I (by omega)).trans (KR_I (by omega))⟩
theorem c_isFull {n : Nat} (h : σ.1 14 0 3 = Int32.ofNat n) (hn : n ≤ 24) : sm_callM X true (d + 1) 74 [vP (14, 0)] σ = rI (if n < 24 then 0 else 1) σ := by
  rw [f_X4_isFull, q_X4_isFull_0, h]
  by_cases q : n < 24
  · rw [if_pos q, if_pos (by rw [show (24 : Int32) = Int32.ofNat 24 from rfl, i_lt (by omega) (by omega)]; exact q)]
  · rw [if_neg q, if_neg (by rw [show (24 : Int32) = Int32.ofNat 24 from rfl, i_lt (by omega) (by omega)]; exact q)]
theorem ci_make {ci : Nat} (v : Int64) (t : Int32) (h : CI ci O σ) : ∃ n σ', n < 24 ∧ sm_callM X true (d + 2) 75 [vP (14, 0), vL v, vI t] σ = rI (Int32.ofNat n) σ' ∧ CI ci O σ' ∧ KR σ σ' := by
  obtain ⟨n, hn, e⟩ := h.2.2.2.1
  rw [f_X4_make, q_X4_make_0, c_isFull e hn, bI_r]
  by_cases q : n < 24
  · rw [if_pos q, if_pos rfl, e, ix_nat q (by decide), show (sL σ 47 0 n v).1 14 0 3 = Int32.ofNat n from e, ix_nat q (by decide), show (sI (sL σ 47 0 n v) 48 0 n t).1 14 0 3 = Int32.ofNat n by rw [gI, if_neg (by omega)]; exact e, i_s, gI, if_pos ⟨rfl, rfl, rfl⟩, i_pred]
    exact ⟨n, _, q, rfl, CI_made (CI_o (CI_L h) (by omega) (by omega) (by omega) (by omega) (by omega)) (by omega), ((KR_I (σ := sL σ 47 0 n v) (by omega)).trans (KR_I (by omega)) : KR (sL σ 47 0 n v) _)⟩
  · rw [if_neg q, if_neg (by decide)]
    exact ⟨0, σ, by omega, rfl, h, KR.refl _⟩
theorem ci_know {ci : Nat} (x : Int32) (h : CI ci O σ) : ∃ σ', sm_callM X true (d + 1) 76 [vP (14, 0), vI x] σ = rV σ' ∧ CI ci O σ' ∧ KR σ σ' := by
  obtain ⟨n, hn, e⟩ := h.2.2.2.2.1
  rw [f_X4_know, q_X4_know_0, e]
  by_cases q : n < 24
  · rw [if_pos (by rw [show (24 : Int32) = Int32.ofNat 24 from rfl, i_lt (by omega) (by omega)]; exact q)]
    by_cases q1 : x < 0
    · rw [if_pos q1]; exact ⟨σ, rfl, h, KR.refl _⟩
    · rw [if_neg q1]
      by_cases q2 : x < 24
      · obtain ⟨k, hk, rfl⟩ := i32_nat (n := 24) (by omega) q1 q2
        rw [if_pos q2, ix_nat q (by decide), show (sI σ 49 0 n (Int32.ofNat k)).1 14 0 4 = Int32.ofNat n by rw [gI, if_neg (by omega)]; exact e, i_s]
        exact ⟨_, rfl, CI_known (CI_slot h hk) (by omega), (KR_I (by omega)).trans (KR_I (by omega))⟩
      · rw [if_neg q2]; exact ⟨σ, rfl, h, KR.refl _⟩
  · rw [if_neg (by rw [show (24 : Int32) = Int32.ofNat 24 from rfl, i_lt (by omega) (by omega)]; exact q)]
    exact ⟨σ, rfl, h, KR.refl _⟩
theorem ci_forget {ci : Nat} (x : Int32) (h : CI ci O σ) : ∃ σ', sm_callM X true (d + 2) 78 [vP (14, 0), vI x] σ = rV σ' ∧ CI ci O σ' ∧ KR σ σ' := by
  obtain ⟨n, hn, e⟩ := h.2.2.2.2.1
  rw [f_X4_forgetDownTo, q_X4_forgetDownTo_0, e, j_min, bI_r, j_max, bI_r]
  have key : ∃ m, m ≤ 24 ∧ (if (0 : Int32) < (if x < Int32.ofNat n then x else Int32.ofNat n) then (if x < Int32.ofNat n then x else Int32.ofNat n) else 0) = Int32.ofNat m := by
    by_cases q : x < Int32.ofNat n
    · rw [if_pos q]
      by_cases q0 : 0 < x
      · have q1 : ¬ x < 0 := fun z => by
          have e1 := Int32.lt_iff_toInt_lt.mp z
          have e2 := Int32.lt_iff_toInt_lt.mp q0
          omega
        obtain ⟨k, hk, rfl⟩ := i32_nat (n := n) (by omega) q1 q
        rw [if_pos q0]; exact ⟨k, by omega, rfl⟩
      · rw [if_neg q0]; exact ⟨0, by omega, rfl⟩
    · rw [if_neg q]
      split
      · exact ⟨n, hn, rfl⟩
      · exact ⟨0, by omega, rfl⟩
  obtain ⟨m, hm, em⟩ := key
  rw [em]
  exact ⟨_, rfl, CI_known h hm, KR_I (by omega)⟩
theorem ci_slotOf_2 {ci : Nat} (v : Int64) (h : CI ci O σ) {n : Nat} (e : σ.1 14 0 4 = Int32.ofNat n) (hn : n ≤ 24) : ∀ (m k : Nat) (d2 : sm_V), k + m = n → ∃ y, sm_go (sm_ZZ X) sm_PP true (sm_callM X true d) 79 2 [vP (14, 0), vL v, d2, vI (Int32.ofNat k)] [] σ = rI y σ
  | 0, k, d2, hk => by
    rw [q_X4_slotOf_2, e, if_neg (by rw [i_lt (by omega) (by omega)]; omega)]
    exact ⟨_, rfl⟩
  | m + 1, k, d2, hk => by
    obtain ⟨j, hj, ej⟩ := h.2.2.2.2.2.1 k (by omega)
    rw [q_X4_slotOf_2, e, if_pos (by rw [i_lt (by omega) (by omega)]; omega), ix_nat (by omega) (by decide), ej, ix_nat hj (by decide)]
    by_cases q : lg_cmp (σ.2.1 47 0 j) v = 0
    · rw [if_pos q, ix_nat (by omega) (by decide)]; exact ⟨_, rfl⟩
    · rw [if_neg q, i_s]
      exact ci_slotOf_2 v h e hn m (k + 1) _ (by omega)
theorem ci_slotOf {ci : Nat} (v : Int64) (h : CI ci O σ) : ∃ y, sm_callM X true (d + 1) 79 [vP (14, 0), vL v] σ = rI y σ := by
  obtain ⟨n, hn, e⟩ := h.2.2.2.2.1
  rw [f_X4_slotOf, q_X4_slotOf_0]
  exact ci_slotOf_2 v h e hn n 0 _ (Nat.zero_add _)
theorem ci_typeOf {ci : Nat} (x : Int32) (h : CI ci O σ) : ∃ y, sm_callM X true (d + 1) 80 [vP (14, 0), vI x] σ = rI y σ := by
  obtain ⟨n, hn, e⟩ := h.2.2.2.1
  rw [f_X4_typeOf, q_X4_typeOf_0, e]
  by_cases q1 : x < 0
  · rw [if_pos q1]; exact ⟨_, rfl⟩
  · rw [if_neg q1]
    by_cases q2 : x < Int32.ofNat n
    · obtain ⟨k, hk, rfl⟩ := i32_nat (n := n) (by omega) q1 q2
      rw [if_pos q2, ix_nat (by omega) (by decide)]; exact ⟨_, rfl⟩
    · rw [if_neg q2]; exact ⟨_, rfl⟩
theorem ci_findProc_11 (v : Int64) {n : Nat} (hn : n ≤ 12) : ∀ (m k : Nat) (d2 : sm_V), k + m = n → ∃ y, sm_go (sm_ZZ X) sm_PP true (sm_callM X true (d + 5)) 90 11 [vP (15, 0), vL v, d2, vI (Int32.ofNat n), vI (Int32.ofNat k)] [] σ = rI y σ
  | 0, k, d2, hk => by
    rw [q_X5_findProc_11, if_neg (by rw [i_lt (by omega) (by omega)]; omega), c_indexIn (by decide), bI_r]
    exact ⟨_, rfl⟩
  | m + 1, k, d2, hk => by
    rw [q_X5_findProc_11, if_pos (by rw [i_lt (by omega) (by omega)]; omega), if_pos (by rw [show (12 : Int32) = Int32.ofNat 12 from rfl, i_lt (by omega) (by omega)]; omega), ix_nat (by omega) (by decide)]
    by_cases q : lg_cmp (σ.2.1 50 0 k) v = 0
    · rw [if_pos q]; exact ⟨_, rfl⟩
    · rw [if_neg q, i_s]
      exact ci_findProc_11 v hn m (k + 1) _ (by omega)
theorem ci_findProc {ci : Nat} (v : Int64) (h : CI ci O σ) : ∃ y, sm_callM X true (d + 6) 90 [vP (15, 0), vL v] σ = rI y σ := by
  obtain ⟨n, hn, e, -⟩ := ci_ownProcs (X := X) (d := d + 4) h
  rw [f_X5_findProc, q_X5_findProc_0, h.2.2.2.2.2.2.2, if_pos rfl, e, bI_r]
  exact ci_findProc_11 v hn n 0 _ (Nat.zero_add _)
end
