section
/-! THE READER's OWN BOUNDS, and that its small methods keep them -/
variable {X : Nat × (Nat → Int32)} {d : Nat} {s σ : sm_S} {O : Nat → Nat → Nat → Int32}
/-- the other code stays as it was -/
def OC (ci : Nat) (O : Nat → Nat → Nat → Int32) (σ : sm_S) : Prop := ∀ t c k, c ≠ ci → (t = 10 ∨ (30 ≤ t ∧ t ≤ 38)) → σ.1 t c k = O t c k
theorem OC_I {ci t i k : Nat} {v : Int32} (h : OC ci O σ) (hi : t = 10 ∨ (30 ≤ t ∧ t ≤ 38) → i = ci) : OC ci O (sI σ t i k v) := by
  intro t' c k' hc ht
  rw [gI, if_neg (fun q => by obtain ⟨q1, q2, -⟩ := q; subst q1; exact hc (q2.trans (hi ht)))]
  exact h t' c k' hc ht
/-- code ci is being written; counts are within their rows -/
def CI (ci : Nat) (O : Nat → Nat → Nat → Int32) (σ : sm_S) : Prop := ((∃ n, n ≤ 900 ∧ σ.1 10 ci 11 = Int32.ofNat n) ∧ OC ci O σ) ∧ (∃ n, n ≤ 100 ∧ σ.1 10 ci 10 = Int32.ofNat n) ∧ (∃ n, 5 ≤ n ∧ n ≤ 17 ∧ σ.1 10 ci 9 = Int32.ofNat n) ∧ (∃ n, n ≤ 24 ∧ σ.1 14 0 3 = Int32.ofNat n) ∧ (∃ n, n ≤ 24 ∧ σ.1 14 0 4 = Int32.ofNat n) ∧
  (∀ i, i < 24 → ∃ n, n < 24 ∧ σ.1 49 0 i = Int32.ofNat n) ∧ (∀ p, p < 17 → ∃ n, n ≤ 4 ∧ σ.1 36 ci p = Int32.ofNat n) ∧ σ.2.2.1 15 0 3 = (10, ci)
/-- nothing of the reader itself has changed, nor of the five procs -/
def K5 (σ σ' : sm_S) : Prop := ∀ c, (∀ i, i < 5 → σ'.1 36 c i = σ.1 36 c i ∧ σ'.1 38 c i = σ.1 38 c i) ∧ ∀ k, k < 20 → σ'.1 37 c k = σ.1 37 c k
def KR (σ σ' : sm_S) : Prop := (∀ k, σ'.1 15 0 k = σ.1 15 0 k) ∧ K5 σ σ'
theorem KR.refl (σ : sm_S) : KR σ σ := ⟨fun _ => rfl, fun _ => ⟨fun _ _ => ⟨rfl, rfl⟩, fun _ _ => rfl⟩⟩
theorem KR.trans {a b c : sm_S} (h : KR a b) (k : KR b c) : KR a c := ⟨fun n => (k.1 n).trans (h.1 n), fun x => ⟨fun i hi => ⟨(((k.2 x).1 i hi).1).trans ((h.2 x).1 i hi).1, (((k.2 x).1 i hi).2).trans ((h.2 x).1 i hi).2⟩, fun n hn => ((k.2 x).2 n hn).trans ((h.2 x).2 n hn)⟩⟩
theorem KR_I {t i k : Nat} {v : Int32} (h : t ≠ 15 ∧ (t = 36 ∨ t = 38 → 5 ≤ k) ∧ (t = 37 → 20 ≤ k)) : KR σ (sI σ t i k v) := by
  refine ⟨fun n => by rw [gI, if_neg (fun q => h.1 q.1.symm)], fun c => ⟨fun j hj => ⟨?_, ?_⟩, fun j hj => ?_⟩⟩
  · rw [gI, if_neg (fun q => by have := h.2.1 (Or.inl q.1.symm); omega)]
  · rw [gI, if_neg (fun q => by have := h.2.1 (Or.inr q.1.symm); omega)]
  · rw [gI, if_neg (fun q => by have := h.2.2 q.1.symm; omega)]
/-- a write elsewhere -/
theorem CI_o {ci t i k : Nat} {v : Int32} (h : CI ci O σ) (h1 : t ≠ 10) (h2 : t ≠ 14) (h3 : t ≠ 49) (h4 : t ≠ 36) (h5 : 30 ≤ t ∧ t ≤ 38 → i = ci) : CI ci O (sI σ t i k v) := by
  obtain ⟨a1, a2, a3, a4, a5, a6, a7, a8⟩ := h
  refine ⟨?_, ?_, ?_, ?_, ?_, fun j hj => ?_, fun p hp => ?_, a8⟩
  · exact ⟨by rw [gI, if_neg (fun q => h1 q.1.symm)]; exact a1.1, OC_I a1.2 (fun z => z.elim (fun z => absurd z h1) h5)⟩
  · rw [gI, if_neg (fun q => h1 q.1.symm)]; exact a2
  · rw [gI, if_neg (fun q => h1 q.1.symm)]; exact a3
  · rw [gI, if_neg (fun q => h2 q.1.symm)]; exact a4
  · rw [gI, if_neg (fun q => h2 q.1.symm)]; exact a5
  · rw [gI, if_neg (fun q => h3 q.1.symm)]; exact a6 j hj
  · rw [gI, if_neg (fun q => h4 q.1.symm)]; exact a7 p hp
theorem CI_L {ci t i k : Nat} {v : Int64} (h : CI ci O σ) : CI ci O (sL σ t i k v) := h
theorem CI_size {ci n : Nat} (h : CI ci O σ) (hn : n ≤ 900) : CI ci O (sI σ 10 ci 11 (Int32.ofNat n)) := by
  obtain ⟨a1, a2, a3, a4, a5, a6, a7, a8⟩ := h
  refine ⟨⟨⟨n, hn, by rw [gI, if_pos ⟨rfl, rfl, rfl⟩]⟩, OC_I a1.2 (by omega)⟩, ?_, ?_, ?_, ?_, fun j hj => ?_, fun p hp => ?_, a8⟩
  · rw [gI, if_neg (by omega)]; exact a2
  · rw [gI, if_neg (by omega)]; exact a3
  · rw [gI, if_neg (by omega)]; exact a4
  · rw [gI, if_neg (by omega)]; exact a5
  · rw [gI, if_neg (by omega)]; exact a6 j hj
  · rw [gI, if_neg (by omega)]; exact a7 p hp
theorem CI_tries {ci n : Nat} (h : CI ci O σ) (hn : n ≤ 100) : CI ci O (sI σ 10 ci 10 (Int32.ofNat n)) := by
  obtain ⟨a1, a2, a3, a4, a5, a6, a7, a8⟩ := h
  refine ⟨?_, ⟨n, hn, by rw [gI, if_pos ⟨rfl, rfl, rfl⟩]⟩, ?_, ?_, ?_, fun j hj => ?_, fun p hp => ?_, a8⟩
  · exact ⟨by rw [gI, if_neg (by omega)]; exact a1.1, OC_I a1.2 (by omega)⟩
  · rw [gI, if_neg (by omega)]; exact a3
  · rw [gI, if_neg (by omega)]; exact a4
  · rw [gI, if_neg (by omega)]; exact a5
  · rw [gI, if_neg (by omega)]; exact a6 j hj
  · rw [gI, if_neg (by omega)]; exact a7 p hp
theorem CI_open {ci : Nat} {v : Int32} (h : CI ci O σ) : CI ci O (sI σ 10 ci 12 v) := by
  obtain ⟨a1, a2, a3, a4, a5, a6, a7, a8⟩ := h
  refine ⟨?_, ?_, ?_, ?_, ?_, fun j hj => ?_, fun p hp => ?_, a8⟩
  · exact ⟨by rw [gI, if_neg (by omega)]; exact a1.1, OC_I a1.2 (by omega)⟩
  · rw [gI, if_neg (by omega)]; exact a2
  · rw [gI, if_neg (by omega)]; exact a3
  · rw [gI, if_neg (by omega)]; exact a4
  · rw [gI, if_neg (by omega)]; exact a5
  · rw [gI, if_neg (by omega)]; exact a6 j hj
  · rw [gI, if_neg (by omega)]; exact a7 p hp
theorem CI_procs {ci n : Nat} (h : CI ci O σ) (h5 : 5 ≤ n) (hn : n ≤ 17) : CI ci O (sI σ 10 ci 9 (Int32.ofNat n)) := by
  obtain ⟨a1, a2, a3, a4, a5, a6, a7, a8⟩ := h
  refine ⟨?_, ?_, ⟨n, h5, hn, by rw [gI, if_pos ⟨rfl, rfl, rfl⟩]⟩, ?_, ?_, fun j hj => ?_, fun p hp => ?_, a8⟩
  · exact ⟨by rw [gI, if_neg (by omega)]; exact a1.1, OC_I a1.2 (by omega)⟩
  · rw [gI, if_neg (by omega)]; exact a2
  · rw [gI, if_neg (by omega)]; exact a4
  · rw [gI, if_neg (by omega)]; exact a5
  · rw [gI, if_neg (by omega)]; exact a6 j hj
  · rw [gI, if_neg (by omega)]; exact a7 p hp
theorem CI_pc {ci p n : Nat} (h : CI ci O σ) (hn : n ≤ 4) : CI ci O (sI σ 36 ci p (Int32.ofNat n)) := by
  obtain ⟨a1, a2, a3, a4, a5, a6, a7, a8⟩ := h
  refine ⟨?_, ?_, ?_, ?_, ?_, fun j hj => ?_, fun q hq => ?_, a8⟩
  · exact ⟨by rw [gI, if_neg (by omega)]; exact a1.1, OC_I a1.2 (by omega)⟩
  · rw [gI, if_neg (by omega)]; exact a2
  · rw [gI, if_neg (by omega)]; exact a3
  · rw [gI, if_neg (by omega)]; exact a4
  · rw [gI, if_neg (by omega)]; exact a5
  · rw [gI, if_neg (by omega)]; exact a6 j hj
  · rw [gI]
    by_cases z : q = p
    · rw [if_pos ⟨rfl, rfl, z⟩]; exact ⟨n, hn, rfl⟩
    · rw [if_neg (fun w => z w.2.2)]; exact a7 q hq
theorem CI_made {ci n : Nat} (h : CI ci O σ) (hn : n ≤ 24) : CI ci O (sI σ 14 0 3 (Int32.ofNat n)) := by
  obtain ⟨a1, a2, a3, a4, a5, a6, a7, a8⟩ := h
  refine ⟨?_, ?_, ?_, ⟨n, hn, by rw [gI, if_pos ⟨rfl, rfl, rfl⟩]⟩, ?_, fun j hj => ?_, fun p hp => ?_, a8⟩
  · exact ⟨by rw [gI, if_neg (by omega)]; exact a1.1, OC_I a1.2 (by omega)⟩
  · rw [gI, if_neg (by omega)]; exact a2
  · rw [gI, if_neg (by omega)]; exact a3
  · rw [gI, if_neg (by omega)]; exact a5
  · rw [gI, if_neg (by omega)]; exact a6 j hj
  · rw [gI, if_neg (by omega)]; exact a7 p hp
theorem CI_known {ci n : Nat} (h : CI ci O σ) (hn : n ≤ 24) : CI ci O (sI σ 14 0 4 (Int32.ofNat n)) := by
  obtain ⟨a1, a2, a3, a4, a5, a6, a7, a8⟩ := h
  refine ⟨?_, ?_, ?_, ?_, ⟨n, hn, by rw [gI, if_pos ⟨rfl, rfl, rfl⟩]⟩, fun j hj => ?_, fun p hp => ?_, a8⟩
  · exact ⟨by rw [gI, if_neg (by omega)]; exact a1.1, OC_I a1.2 (by omega)⟩
  · rw [gI, if_neg (by omega)]; exact a2
  · rw [gI, if_neg (by omega)]; exact a3
  · rw [gI, if_neg (by omega)]; exact a4
  · rw [gI, if_neg (by omega)]; exact a6 j hj
  · rw [gI, if_neg (by omega)]; exact a7 p hp
theorem CI_slot {ci p n : Nat} (h : CI ci O σ) (hn : n < 24) : CI ci O (sI σ 49 0 p (Int32.ofNat n)) := by
  obtain ⟨a1, a2, a3, a4, a5, a6, a7, a8⟩ := h
  refine ⟨?_, ?_, ?_, ?_, ?_, fun q hq => ?_, fun j hj => ?_, a8⟩
  · exact ⟨by rw [gI, if_neg (by omega)]; exact a1.1, OC_I a1.2 (by omega)⟩
  · rw [gI, if_neg (by omega)]; exact a2
  · rw [gI, if_neg (by omega)]; exact a3
  · rw [gI, if_neg (by omega)]; exact a4
  · rw [gI, if_neg (by omega)]; exact a5
  · rw [gI]
    by_cases z : q = p
    · rw [if_pos ⟨rfl, rfl, z⟩]; exact ⟨n, hn, rfl⟩
    · rw [if_neg (fun w => z w.2.2)]; exact a6 q hq
  · rw [gI, if_neg (by omega)]; exact a7 j hj
/-- what emit comes to -/
def emS (σ : sm_S) (ci n : Nat) (op arg pl : Int32) : sm_S := sI (sI (sI (sI (sI σ 30 ci n op) 31 ci n arg) 32 ci n pl) 33 ci n (σ.1 10 ci 12)) 10 ci 11 (Int32.ofNat (n + 1))
theorem i_pred {n : Nat} : Int32.ofNat (n + 1) - 1 = Int32.ofNat n := by
  rw [Int32.ofNat_add]
  exact Int32.add_sub_cancel _ _
theorem c_emit {ci n : Nat} (op arg pl : Int32) (hn : n < 900) (h : σ.1 10 ci 11 = Int32.ofNat n) : sm_callM X true (d + 1) 13 [vP (10, ci), vI op, vI arg, vI pl] σ = rI (Int32.ofNat n) (emS σ ci n op arg pl) := by
  rw [f_X0_emit, q_X0_emit_0, h, if_pos (by rw [show (900 : Int32) = Int32.ofNat 900 from rfl, i_lt (by omega) (by omega)]; exact hn), ix_nat hn (by decide)]
  have e1 : (sI σ 30 ci n op).1 10 ci 11 = Int32.ofNat n := by rw [gI, if_neg (by omega)]; exact h
  have e2 : (sI (sI σ 30 ci n op) 31 ci n arg).1 10 ci 11 = Int32.ofNat n := by rw [gI, if_neg (by omega)]; exact e1
  have e3 : (sI (sI (sI σ 30 ci n op) 31 ci n arg) 32 ci n pl).1 10 ci 11 = Int32.ofNat n := by rw [gI, if_neg (by omega)]; exact e2
  have e4 : (sI (sI (sI σ 30 ci n op) 31 ci n arg) 32 ci n pl).1 10 ci 12 = σ.1 10 ci 12 := by rw [gI, if_neg (by omega), gI, if_neg (by omega), gI, if_neg (by omega)]
  rw [e1, ix_nat hn (by decide), e2, ix_nat hn (by decide), e3, ix_nat hn (by decide), e4]
  have e5 : (sI (sI (sI (sI σ 30 ci n op) 31 ci n arg) 32 ci n pl) 33 ci n (σ.1 10 ci 12)).1 10 ci 11 = Int32.ofNat n := by rw [gI, if_neg (by omega)]; exact e3
  rw [e5, i_s, gI, if_pos ⟨rfl, rfl, rfl⟩, i_pred]
  rfl
theorem ci_emit {ci : Nat} (op arg pl : Int32) (h : CI ci O σ) : ∃ y σ', sm_callM X true (d + 1) 13 [vP (10, ci), vI op, vI arg, vI pl] σ = rI y σ' ∧ CI ci O σ' ∧ KR σ σ' := by
  obtain ⟨n, hn, e⟩ := h.1.1
  by_cases q : n < 900
  · refine ⟨_, _, c_emit op arg pl q e, ?_, ?_⟩
    · exact CI_size (CI_o (CI_o (CI_o (CI_o h (by omega) (by omega) (by omega) (by omega) (by omega)) (by omega) (by omega) (by omega) (by omega) (by omega)) (by omega) (by omega) (by omega) (by omega) (by omega)) (by omega) (by omega) (by omega) (by omega) (by omega)) (by omega)
    · exact ((((KR_I (by omega)).trans (KR_I (by omega))).trans (KR_I (by omega))).trans (KR_I (by omega))).trans (KR_I (by omega))
  · refine ⟨σ.1 10 ci 11, σ, ?_, h, KR.refl _⟩
    rw [f_X0_emit, q_X0_emit_0, if_neg (by rw [e, show (900 : Int32) = Int32.ofNat 900 from rfl, i_lt (by omega) (by omega)]; exact q)]
theorem ci_takeBack {ci : Nat} (h : CI ci O σ) : ∃ y σ', sm_callM X true (d + 1) 14 [vP (10, ci)] σ = rI y σ' ∧ CI ci O σ' ∧ KR σ σ' := by
  obtain ⟨n, hn, e⟩ := h.1.1
  rw [f_X0_takeBack, q_X0_takeBack_0, e]
  cases n with
  | zero => exact ⟨0, σ, by rw [if_neg (by decide)], h, KR.refl _⟩
  | succ n =>
    rw [if_pos (by rw [show (0 : Int32) = Int32.ofNat 0 from rfl, i_lt (by omega) (by omega)]; omega), i_pred, gI, if_pos ⟨rfl, rfl, rfl⟩, ix_nat (by omega) (by decide)]
    exact ⟨_, _, rfl, CI_size h (by omega), KR_I (by omega)⟩
theorem c_isInstr {ci n : Nat} (x : Int32) (h : σ.1 10 ci 11 = Int32.ofNat n) (hn : n ≤ 900) : sm_callM X true (d + 1) 18 [vP (10, ci), vI x] σ = rI (if x < 0 then 0 else if x < Int32.ofNat n then 1 else 0) σ := by
  rw [f_X0_isInstruction, q_X0_isInstruction_0, h]
  repeat' split
  all_goals rfl
theorem ci_aimHere {ci : Nat} (x : Int32) (h : CI ci O σ) : ∃ σ', sm_callM X true (d + 2) 15 [vP (10, ci), vI x] σ = rV σ' ∧ CI ci O σ' ∧ KR σ σ' := by
  obtain ⟨n, hn, e⟩ := h.1.1
  rw [f_X0_aimHere, q_X0_aimHere_0, c_isInstr x e hn, bI_r]
  by_cases q1 : x < 0
  · rw [if_pos q1, if_pos rfl]; exact ⟨σ, rfl, h, KR.refl _⟩
  · rw [if_neg q1]
    by_cases q2 : x < Int32.ofNat n
    · rw [if_pos q2, if_neg (by decide)]
      obtain ⟨k, hk, rfl⟩ := i32_nat (n := n) (by omega) q1 q2
      rw [ix_nat (by omega) (by decide)]
      exact ⟨_, rfl, CI_o h (by omega) (by omega) (by omega) (by omega) (by omega), KR_I (by omega)⟩
    · rw [if_neg q2, if_pos rfl]; exact ⟨σ, rfl, h, KR.refl _⟩
theorem ci_addTry {ci : Nat} (h : CI ci O σ) : ∃ y σ', sm_callM X true (d + 1) 16 [vP (10, ci)] σ = rI y σ' ∧ CI ci O σ' ∧ KR σ σ' := by
  obtain ⟨n, hn, e⟩ := h.2.1
  rw [f_X0_addTry, q_X0_addTry_0, e]
  by_cases q : n < 100
  · rw [if_pos (by rw [show (100 : Int32) = Int32.ofNat 100 from rfl, i_lt (by omega) (by omega)]; exact q), ix_nat q (by decide), show (sI σ 34 ci n (σ.1 10 ci 11)).1 10 ci 10 = Int32.ofNat n by rw [gI, if_neg (by omega)]; exact e, i_s]
    exact ⟨_, _, rfl, CI_tries (CI_o h (by omega) (by omega) (by omega) (by omega) (by omega)) (by omega), (KR_I (by omega)).trans (KR_I (by omega))⟩
  · rw [if_neg (by rw [show (100 : Int32) = Int32.ofNat 100 from rfl, i_lt (by omega) (by omega)]; exact q)]
    exact ⟨_, _, rfl, h, KR.refl _⟩
theorem ci_catchHere {ci : Nat} (x : Int32) (h : CI ci O σ) : ∃ σ', sm_callM X true (d + 1) 17 [vP (10, ci), vI x] σ = rV σ' ∧ CI ci O σ' ∧ KR σ σ' := by
  obtain ⟨n, hn, e⟩ := h.2.1
  rw [f_X0_catchHere, q_X0_catchHere_0, e]
  by_cases q1 : x < 0
  · rw [if_pos q1]; exact ⟨σ, rfl, h, KR.refl _⟩
  · rw [if_neg q1]
    by_cases q2 : x < Int32.ofNat n
    · obtain ⟨k, hk, rfl⟩ := i32_nat (n := n) (by omega) q1 q2
      rw [if_pos q2, ix_nat (by omega) (by decide)]
      exact ⟨_, rfl, CI_o h (by omega) (by omega) (by omega) (by omega) (by omega), KR_I (by omega)⟩
    · rw [if_neg q2]; exact ⟨σ, rfl, h, KR.refl _⟩
end
