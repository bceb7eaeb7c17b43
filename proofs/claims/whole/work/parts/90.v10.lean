section
/-! PROCS IN THE CLASS -/
variable {X : Nat × (Nat → Int32)} {d : Nat} {s σ : sm_S} {ci N : Nat} {O : Nat → Nat → Nat → Int32} {T : zT} {a b : zA}
def cFnd (n : List Int32) (ps : List zP) : Int32 := match qFind n ps 0 with | some i => Int32.ofNat (5 + i) | none => whr n sm_fives 0
/-- a proc's number: in what is read (own ones from 0 on, the five from 12 on), in the class -/
def cIx (ps : List zP) (q x : Int32) : Prop := (∃ i, i < ps.length ∧ q = Int32.ofNat i ∧ x = Int32.ofNat (5 + i)) ∨ (∃ i, i < 5 ∧ q = Int32.ofNat (12 + i) ∧ x = Int32.ofNat i)
theorem fives_d (n : List Int32) : (whr n sm_fives 12 = -1 ∧ whr n sm_fives 0 = -1) ∨ ∃ i, i < 5 ∧ whr n sm_fives 12 = Int32.ofNat (12 + i) ∧ whr n sm_fives 0 = Int32.ofNat i := by
  have w : sm_fives = [sm_by 40, sm_by 41, sm_by 42, sm_by 43, sm_by 44] := rfl
  rw [w]
  simp only [whr]
  by_cases h0 : sm_by 40 = n
  · rw [if_pos h0, if_pos h0]; exact Or.inr ⟨0, by omega, rfl, rfl⟩
  rw [if_neg h0, if_neg h0]
  by_cases h1 : sm_by 41 = n
  · rw [if_pos h1, if_pos h1]; exact Or.inr ⟨1, by omega, rfl, rfl⟩
  rw [if_neg h1, if_neg h1]
  by_cases h2 : sm_by 42 = n
  · rw [if_pos h2, if_pos h2]; exact Or.inr ⟨2, by omega, rfl, rfl⟩
  rw [if_neg h2, if_neg h2]
  by_cases h3 : sm_by 43 = n
  · rw [if_pos h3, if_pos h3]; exact Or.inr ⟨3, by omega, rfl, rfl⟩
  rw [if_neg h3, if_neg h3]
  by_cases h4 : sm_by 44 = n
  · rw [if_pos h4, if_pos h4]; exact Or.inr ⟨4, by omega, rfl, rfl⟩
  rw [if_neg h4, if_neg h4]
  exact Or.inl ⟨rfl, rfl⟩
theorem qFind_lt {n : List Int32} : ∀ {ps : List zP} {k i : Nat}, qFind n ps k = some i → k ≤ i ∧ i < k + ps.length
  | [], k, i, h => by cases h
  | e :: r, k, i, h => by
    rw [qFind] at h
    by_cases q : e.1 = n
    · rw [if_pos q] at h
      have : k = i := Option.some.inj h
      subst this
      exact ⟨Nat.le_refl _, by rw [List.length_cons]; omega⟩
    · rw [if_neg q] at h
      have := qFind_lt h
      rw [List.length_cons]; omega
theorem pFind_c {n : List Int32} {ps : List zP} (h12 : ps.length ≤ 12) : (pFind n ps = -1 ∧ cFnd n ps = -1) ∨ (pFind n ps ≠ -1 ∧ cFnd n ps ≠ -1 ∧ cIx ps (pFind n ps) (cFnd n ps)) := by
  have nn : ∀ i : Nat, i < 100 → ¬ Int32.ofNat i = -1 := by decide
  unfold pFind cFnd
  cases hq : qFind n ps 0 with
  | some i =>
    have := qFind_lt hq
    exact Or.inr ⟨nn i (by omega), nn (5 + i) (by omega), Or.inl ⟨i, by omega, rfl, rfl⟩⟩
  | none =>
    rcases fives_d n with ⟨h1, h2⟩ | ⟨i, hi, h1, h2⟩
    · exact Or.inl ⟨h1, h2⟩
    · refine Or.inr ⟨?_, ?_, Or.inr ⟨i, hi, h1, h2⟩⟩
      · show whr n sm_fives 12 ≠ -1; rw [h1]; exact nn _ (by omega)
      · show whr n sm_fives 0 ≠ -1; rw [h2]; exact nn _ (by omega)
theorem c_own (h : PC ci O T N a σ) : sm_callM X true (d + 1) 2 [vP (10, ci)] σ = rI (Int32.ofNat (a_q a).length) σ := by
  rw [f_X0_ownProcs, q_X0_ownProcs_0, h.2.2.1.1, show (5 : Int32) = Int32.ofNat 5 from rfl, i_sub]
theorem c_findProc_11 {n : List Int32} (hn : nmOk n) (h : PC ci O T N a σ) : ∀ (m k : Nat) (d2 : sm_V), k + m = (a_q a).length → sm_go (sm_ZZ X) sm_PP true (sm_callM X true (d + 5)) 90 11 [vP (15, 0), vL (pk7 n 0), d2, vI (Int32.ofNat (a_q a).length), vI (Int32.ofNat k)] [] σ = rI (match qFind n ((a_q a).drop k) k with | some i => Int32.ofNat (5 + i) | none => whr n sm_fives 0) σ
  | 0, k, d2, hk => by
    have h12 := h.2.2.1.2.1
    rw [q_X5_findProc_11, if_neg (by rw [i_lt (by omega) (by omega)]; omega), c_fives hn, bI_r, List.drop_eq_nil_of_le (by omega)]; rfl
  | m + 1, k, d2, hk => by
    have h12 := h.2.2.1.2.1
    have hkl : k < (a_q a).length := by omega
    obtain ⟨b1, b2, -⟩ := h.2.2.1.2.2.2 k _ (List.getElem?_eq_getElem hkl)
    rw [q_X5_findProc_11, if_pos (by rw [i_lt (by omega) (by omega)]; omega), if_pos (by rw [show (12 : Int32) = Int32.ofNat 12 from rfl, i_lt (by omega) (by omega)]; omega), ix_nat (by omega) (by decide), b1, List.drop_eq_getElem_cons hkl, qFind]
    by_cases q : ((a_q a)[k]).1 = n
    · rw [if_pos ((lgc _ _).mpr ((pk7_inj b2 hn).mpr q)), if_pos q, show (5 : Int32) = Int32.ofNat 5 from rfl, i_add]
    · rw [if_neg (fun z => q ((pk7_inj b2 hn).mp ((lgc _ _).mp z))), i_s, if_neg q]
      exact c_findProc_11 hn h m (k + 1) _ (by omega)
theorem c_findProc {n : List Int32} (hn : nmOk n) (h : PC ci O T N a σ) : sm_callM X true (d + 6) 90 [vP (15, 0), vL (pk7 n 0)] σ = rI (cFnd n (a_q a)) σ := by
  rw [f_X5_findProc, q_X5_findProc_0, if_cd h.2.2.2.2.1, CI_code h.2.2.2.2.1, c_own (d := d + 4) h, bI_r]
  exact c_findProc_11 hn h (a_q a).length 0 _ (Nat.zero_add _)
theorem five_par : ∀ i, i < 5 → (¬ Int32.ofNat (12 + i) < 12 ∧ (if Int32.ofNat (12 + i) = 12 then ([36] : List Int32) else if Int32.ofNat (12 + i) = 13 then [36, 18] else if Int32.ofNat (12 + i) = 14 then [18, 18] else if Int32.ofNat (12 + i) = 15 then [18, 36, 36] else []) = fivP i ∧ (if Int32.ofNat (12 + i) = 12 then (18 : Int32) else 36) = fivG i ∧ (fivP i).length ≤ 4) := by decide
theorem par_of {ps : List zP} {q x : Int32} (h12 : ps.length ≤ 12) (hx : cIx ps q x) : (∃ i e, ps[i]? = some e ∧ x = Int32.ofNat (5 + i) ∧ i < 12 ∧ qPar ps q = e.2.2.1 ∧ qGiv ps q = e.2.1) ∨ (∃ i, i < 5 ∧ x = Int32.ofNat i ∧ qPar ps q = fivP i ∧ qGiv ps q = fivG i) := by
  rcases hx with ⟨i, hi, rfl, rfl⟩ | ⟨i, hi, rfl, rfl⟩
  · have hl : (Int32.ofNat i < 12) := by rw [show (12 : Int32) = Int32.ofNat 12 from rfl, i_lt (by omega) (by omega)]; omega
    refine Or.inl ⟨i, _, List.getElem?_eq_getElem hi, rfl, by omega, ?_, ?_⟩
    · unfold qPar; rw [if_pos hl, i_tn (by omega), List.getElem?_eq_getElem hi]; rfl
    · unfold qGiv; rw [if_pos hl, i_tn (by omega), List.getElem?_eq_getElem hi]; rfl
  · obtain ⟨h1, h2, h3, -⟩ := five_par i hi
    refine Or.inr ⟨i, hi, rfl, ?_, ?_⟩
    · unfold qPar; rw [if_neg h1]; exact h2
    · unfold qGiv; rw [if_neg h1]; exact h3
theorem c_parCount {q x : Int32} (h : PC ci O T N a σ) (hx : cIx (a_q a) q x) : sm_callM X true (d + 2) 8 [vP (10, ci), vI x] σ = rI (Int32.ofNat (qPar (a_q a) q).length) σ := by
  obtain ⟨p1, p2, p3, p4⟩ := h.2.2.1
  rw [f_X0_parameterCount, q_X0_parameterCount_0]
  rcases par_of p2 hx with ⟨i, e, he, rfl, hi, e1, -⟩ | ⟨i, hi, rfl, e1, -⟩
  · have hil := (List.getElem?_eq_some_iff.mp he).1
    obtain ⟨b1, b2, b3, b4, b5, b6, b7, b8⟩ := p4 i e he
    rw [c_isProc _ p1, bI_r, if_neg (i_nn (by omega)), if_pos ((i_lt (by omega) (by omega)).mpr (by omega)), if_neg (by decide), ix_nat (by omega) (by decide), b6, e1]
  · obtain ⟨b1, b2, b3⟩ := p3 i hi
    rw [c_isProc _ p1, bI_r, if_neg (i_nn (by omega)), if_pos ((i_lt (by omega) (by omega)).mpr (by omega)), if_neg (by decide), ix_nat (by omega) (by decide), b1, e1]
theorem c_given {q x : Int32} (h : PC ci O T N a σ) (hx : cIx (a_q a) q x) : sm_callM X true (d + 2) 10 [vP (10, ci), vI x] σ = rI (qGiv (a_q a) q) σ := by
  obtain ⟨p1, p2, p3, p4⟩ := h.2.2.1
  rw [f_X0_given, q_X0_given_0]
  rcases par_of p2 hx with ⟨i, e, he, rfl, hi, -, e1⟩ | ⟨i, hi, rfl, -, e1⟩
  · have hil := (List.getElem?_eq_some_iff.mp he).1
    obtain ⟨b1, b2, b3, b4, b5, b6, b7, b8⟩ := p4 i e he
    rw [c_isProc _ p1, bI_r, if_neg (i_nn (by omega)), if_pos ((i_lt (by omega) (by omega)).mpr (by omega)), if_neg (by decide), ix_nat (by omega) (by decide), b7, e1]
  · obtain ⟨b1, b2, b3⟩ := p3 i hi
    rw [c_isProc _ p1, bI_r, if_neg (i_nn (by omega)), if_pos ((i_lt (by omega) (by omega)).mpr (by omega)), if_neg (by decide), ix_nat (by omega) (by decide), b2, e1]
theorem qPar_4 {q x : Int32} (h : PC ci O T N a σ) (hx : cIx (a_q a) q x) : (qPar (a_q a) q).length ≤ 4 := by
  obtain ⟨p1, p2, p3, p4⟩ := h.2.2.1
  rcases par_of p2 hx with ⟨i, e, he, rfl, hi, e1, -⟩ | ⟨i, hi, rfl, e1, -⟩
  · rw [e1]; exact (p4 i e he).2.2.2.2.1
  · rw [e1]; exact (five_par i hi).2.2.2
theorem c_par {q x : Int32} {j : Nat} (h : PC ci O T N a σ) (hx : cIx (a_q a) q x) (hj : j < 2 ^ 31) : sm_callM X true (d + 3) 9 [vP (10, ci), vI x, vI (Int32.ofNat j)] σ = rI ((qPar (a_q a) q).getD j 38) σ := by
  have h4 := qPar_4 h hx
  have hc := c_parCount (X := X) (d := d) h hx
  obtain ⟨p1, p2, p3, p4⟩ := h.2.2.1
  rw [f_X0_parameter, q_X0_parameter_0, if_neg (i_nn hj), hc, bI_r]
  by_cases qj : j < (qPar (a_q a) q).length
  · rw [if_pos ((i_lt hj (by omega)).mpr qj), q_X0_parameter_18, if_neg (by decide)]
    have hg : (qPar (a_q a) q)[j]? = some ((qPar (a_q a) q).getD j 38) := by rw [List.getElem?_eq_getElem qj]; simp [List.getD, qj]
    rcases par_of p2 hx with ⟨i, e, he, rfl, hi, e1, -⟩ | ⟨i, hi, rfl, e1, -⟩
    · obtain ⟨b1, b2, b3, b4, b5, b6, b7, b8⟩ := p4 i e he
      rw [e1] at hg ⊢
      rw [show (4 : Int32) = Int32.ofNat 4 from rfl, i_mul, i_add, ix_nat (by omega) (by decide), b8 j _ hg]
    · obtain ⟨b1, b2, b3⟩ := p3 i hi
      rw [e1] at hg ⊢
      rw [show (4 : Int32) = Int32.ofNat 4 from rfl, i_mul, i_add, ix_nat (by omega) (by decide), b3 j _ hg]
  · rw [if_neg (fun z => qj ((i_lt hj (by omega)).mp z)), q_X0_parameter_18, if_pos rfl]
    simp [List.getD, qj]
/-- the proc that is being read -/
theorem cIx_last (hq : a_q a ≠ []) : cIx (a_q a) (Int32.ofNat ((a_q a).length - 1)) (Int32.ofNat (4 + (a_q a).length)) := by
  have : 0 < (a_q a).length := List.length_pos_iff.mpr hq
  exact Or.inl ⟨(a_q a).length - 1, by omega, rfl, by rw [show 5 + ((a_q a).length - 1) = 4 + (a_q a).length by omega]⟩
theorem getLast_at {α : Type} {l : List α} : l.getLast? = l[l.length - 1]? := by
  rw [List.getLast?_eq_getElem?]
theorem qGiv_last (hq : a_q a ≠ []) (h12 : (a_q a).length ≤ 12) : qGiv (a_q a) (Int32.ofNat ((a_q a).length - 1)) = (gNow a).2.2.1 := by
  have hl : 0 < (a_q a).length := List.length_pos_iff.mpr hq
  unfold qGiv gNow
  rw [if_pos (by rw [show (12 : Int32) = Int32.ofNat 12 from rfl, i_lt (by omega) (by omega)]; omega), i_tn (by omega)]
  show _ = ((a_q a).getLast?.map (fun q => q.2.1)).getD 38
  rw [getLast_at]
/-- a proc's name has been read -/
theorem c_addProc {n : List Int32} (h : PC ci O T N a σ) (hn : nmOk n) (hq : (a_q a).length < 12) (hw : wN a = 0) : ∃ σ', sm_callM X true (d + 1) 5 [vP (10, ci)] (sL σ 50 0 (a_q a).length (pk7 n 0)) = rI (Int32.ofNat (5 + (a_q a).length)) σ' ∧ PC ci O T N (aQ a (a_q a ++ [(n, 38, [], zL a)])) (sI σ' 15 0 4 (Int32.ofNat (5 + (a_q a).length))) := by
  obtain ⟨hp, h1, h2, h3, h4, h5⟩ := h
  rw [zIW_0 hw] at h1 h2
  obtain ⟨p1, p2, p3, p4⟩ := h2
  have hs : (sL σ 50 0 (a_q a).length (pk7 n 0)).1 = σ.1 := rfl
  have e1 : sm_callM X true (d + 1) 5 [vP (10, ci)] (sL σ 50 0 (a_q a).length (pk7 n 0)) = rI (Int32.ofNat (5 + (a_q a).length)) (sI (sI (sI (sI (sL σ 50 0 (a_q a).length (pk7 n 0)) 35 ci (5 + (a_q a).length) (Int32.ofNat (pos vC (a_i a) (a_i a).length))) 36 ci (5 + (a_q a).length) 0) 38 ci (5 + (a_q a).length) 38) 10 ci 9 (Int32.ofNat (5 + (a_q a).length + 1))) := by
    have g0 : (sL σ 50 0 (a_q a).length (pk7 n 0)).1 10 ci 9 = Int32.ofNat (5 + (a_q a).length) := p1
    have g0' : (sL σ 50 0 (a_q a).length (pk7 n 0)).1 10 ci 11 = Int32.ofNat (pos vC (a_i a) (a_i a).length) := h1.1
    have g1 : ∀ v, (sI (sL σ 50 0 (a_q a).length (pk7 n 0)) 35 ci (5 + (a_q a).length) v).1 10 ci 9 = Int32.ofNat (5 + (a_q a).length) := fun v => by rw [gI, if_neg (by omega)]; exact g0
    have g2 : ∀ v w, (sI (sI (sL σ 50 0 (a_q a).length (pk7 n 0)) 35 ci (5 + (a_q a).length) v) 36 ci (5 + (a_q a).length) w).1 10 ci 9 = Int32.ofNat (5 + (a_q a).length) := fun v w => by rw [gI, if_neg (by omega)]; exact g1 v
    have g3 : ∀ v w x, (sI (sI (sI (sL σ 50 0 (a_q a).length (pk7 n 0)) 35 ci (5 + (a_q a).length) v) 36 ci (5 + (a_q a).length) w) 38 ci (5 + (a_q a).length) x).1 10 ci 9 = Int32.ofNat (5 + (a_q a).length) := fun v w x => by rw [gI, if_neg (by omega)]; exact g2 v w
    rw [f_X0_addProc, q_X0_addProc_0, g0, if_pos (by rw [show (17 : Int32) = Int32.ofNat 17 from rfl, i_lt (by omega) (by omega)]; omega), ix_nat (by omega) (by decide), g1, ix_nat (by omega) (by decide), g2, ix_nat (by omega) (by decide), g3, i_s, gI, if_pos ⟨rfl, rfl, rfl⟩, i_pred, g0']
  obtain ⟨y, σ', e2, c2, -⟩ := ci_addProc (X := X) (d := d) (σ := sL σ 50 0 (a_q a).length (pk7 n 0)) (CI_L h4)
  rw [e1] at e2
  rw [← (rI_inj e2).2] at c2
  refine ⟨_, e1, ?_, ?_⟩
  · exact PT_o (PT_o (PT_o (PT_o (PT_o (PT_L hp (by omega) (by omega)) (by omega) (by omega) (by omega) (by omega)) (by omega) (by omega) (by omega) (by omega)) (by omega) (by omega) (by omega) (by omega)) (by omega) (by omega) (by omega) (by omega)) (by omega) (by omega) (by omega) (by omega)
  · have hw' : wN (aQ a (a_q a ++ [(n, 38, [], zL a)])) = 0 := hw
    unfold PR
    rw [zIW_0 hw']
    have hl : (a_q a ++ [(n, 38, [], zL a)]).length = (a_q a).length + 1 := by rw [List.length_append]; rfl
    refine ⟨?_, ⟨?_, by show (a_q a ++ [(n, 38, [], zL a)]).length ≤ 12; rw [hl]; omega, fun i hi => ?_, fun i q hi => ?_⟩, ?_, CI_o c2 (by omega) (by omega) (by omega) (by omega) (by omega), fun _ => ?_⟩
    · exact CV_o (CV_10 (CV_o (CV_o (CV_o (CV_L h1) (by omega) (by omega) (by omega) (by omega) (by omega) (by omega)) (by omega) (by omega) (by omega) (by omega) (by omega) (by omega)) (by omega) (by omega) (by omega) (by omega) (by omega) (by omega)) (by omega) (by omega) (by omega)) (by omega) (by omega) (by omega) (by omega) (by omega) (by omega)
    · show _ = Int32.ofNat (5 + (a_q a ++ [(n, 38, [], zL a)]).length)
      rw [gI, if_neg (by omega), gI, if_pos ⟨rfl, rfl, rfl⟩, hl]; rfl
    · obtain ⟨b1, b2, b3⟩ := p3 i hi
      refine ⟨?_, ?_, fun j t hj => ?_⟩
      · rw [gI, if_neg (by omega), gI, if_neg (by omega), gI, if_neg (by omega), gI, if_neg (by omega), gI, if_neg (by omega)]; exact b1
      · rw [gI, if_neg (by omega), gI, if_neg (by omega), gI, if_neg (by omega), gI, if_neg (by omega), gI, if_neg (by omega)]; exact b2
      · rw [gI, if_neg (by omega), gI, if_neg (by omega), gI, if_neg (by omega), gI, if_neg (by omega), gI, if_neg (by omega)]; exact b3 j t hj
    · have hi : (a_q a ++ [(n, 38, [], zL a)])[i]? = some q := hi
      rcases Nat.lt_or_ge i (a_q a).length with z | z
      · rw [List.getElem?_append_left z] at hi
        obtain ⟨b1, b2, b3, b4, b5, b6, b7, b8⟩ := p4 i q hi
        refine ⟨?_, b2, b3, ?_, b5, ?_, ?_, fun j t hj => ?_⟩
        · show (sL σ 50 0 (a_q a).length (pk7 n 0)).2.1 50 0 i = _
          rw [gL, if_neg (by omega)]; exact b1
        · rw [gI, if_neg (by omega), gI, if_neg (by omega), gI, if_neg (by omega), gI, if_neg (by omega), gI, if_neg (by omega)]; exact b4
        · rw [gI, if_neg (by omega), gI, if_neg (by omega), gI, if_neg (by omega), gI, if_neg (by omega), gI, if_neg (by omega)]; exact b6
        · rw [gI, if_neg (by omega), gI, if_neg (by omega), gI, if_neg (by omega), gI, if_neg (by omega), gI, if_neg (by omega)]; exact b7
        · rw [gI, if_neg (by omega), gI, if_neg (by omega), gI, if_neg (by omega), gI, if_neg (by omega), gI, if_neg (by omega)]; exact b8 j t hj
      · have hz := (List.getElem?_eq_some_iff.mp hi).1
        rw [hl] at hz
        have hj2 : i = (a_q a).length := by omega
        subst hj2
        have he : q = (n, 38, [], zL a) := by simp at hi; exact hi.symm
        subst he
        refine ⟨?_, hn, Nat.le_refl _, ?_, Nat.zero_le _, ?_, ?_, fun j t hj => by cases hj⟩
        · show (sL σ 50 0 (a_q a).length (pk7 n 0)).2.1 50 0 (a_q a).length = _
          rw [gL, if_pos ⟨rfl, rfl, rfl⟩]
        · rw [gI, if_neg (by omega), gI, if_neg (by omega), gI, if_neg (by omega), gI, if_neg (by omega), gI, if_pos ⟨rfl, rfl, rfl⟩]; rfl
        · rw [gI, if_neg (by omega), gI, if_neg (by omega), gI, if_neg (by omega), gI, if_pos ⟨rfl, rfl, rfl⟩]; rfl
        · rw [gI, if_neg (by omega), gI, if_neg (by omega), gI, if_pos ⟨rfl, rfl, rfl⟩]
    · exact PN_o (PN_o (PN_o (PN_o (PN_o (PN_L h3 (by omega)) (by omega) (by omega) (by omega)) (by omega) (by omega) (by omega)) (by omega) (by omega) (by omega)) (by omega) (by omega) (by omega)) (by omega) (by omega) (by omega)
    · rw [gI, if_pos ⟨rfl, rfl, rfl⟩]
      show _ = Int32.ofNat (4 + (a_q a ++ [(n, 38, [], zL a)]).length)
      rw [hl, show 5 + (a_q a).length = 4 + ((a_q a).length + 1) by omega]
theorem mod_last {α : Type} {l : List α} {f : α → α} {e : α} (h : l[l.length - 1]? = some e) : ∀ i, (l.modify (l.length - 1) f)[i]? = if i = l.length - 1 then some (f e) else l[i]? := by
  intro i
  rw [List.getElem?_modify]
  by_cases q : l.length - 1 = i
  · subst q; simp [h]
  · simp [q, show ¬ i = l.length - 1 from fun z => q z.symm]
theorem last_some {q : List zP} (h : q ≠ []) : ∃ e, q[q.length - 1]? = some e := by
  have : 0 < q.length := List.length_pos_iff.mpr h
  exact ⟨_, List.getElem?_eq_getElem (by omega)⟩
/-- what a proc gives is told -/
theorem c_setGiven {t : Int32} (h : PC ci O T N a σ) (hq : a_q a ≠ []) (hw : wN a = 0) : ∃ σ', sm_callM X true (d + 2) 7 [vP (10, ci), vI (Int32.ofNat (4 + (a_q a).length)), vI t] σ = rV σ' ∧ PC ci O T N (qLast a (fun q => (q.1, t, q.2.2))) σ' := by
  have h0 := h
  obtain ⟨hp, h1, h2, h3, h4, h5⟩ := h
  rw [zIW_0 hw] at h1 h2
  obtain ⟨p1, p2, p3, p4⟩ := h2
  have hl : 0 < (a_q a).length := List.length_pos_iff.mpr hq
  obtain ⟨e, he⟩ := last_some hq
  have hn5 : ¬ Int32.ofNat (4 + (a_q a).length) < 5 := by rw [show (5 : Int32) = Int32.ofNat 5 from rfl, i_lt (by omega) (by omega)]; omega
  have hn6 : Int32.ofNat (4 + (a_q a).length) < Int32.ofNat (5 + (a_q a).length) := by rw [i_lt (by omega) (by omega)]; omega
  have e1 : sm_callM X true (d + 2) 7 [vP (10, ci), vI (Int32.ofNat (4 + (a_q a).length)), vI t] σ = rV (sI σ 38 ci (4 + (a_q a).length) t) := by
    rw [f_X0_setGiven, q_X0_setGiven_0, c_isOwnProc _ p1, bI_r, if_neg hn5, if_pos hn6, if_neg (by decide), ix_nat (by omega) (by decide)]
  obtain ⟨σ', e2, c2, -⟩ := ci_setGiven (X := X) (d := d) (Int32.ofNat (4 + (a_q a).length)) t h4
  rw [e1] at e2
  rw [← rV_inj e2] at c2
  refine ⟨_, e1, PT_o hp (by omega) (by omega) (by omega) (by omega), ?_⟩
  have hw' : wN (qLast a (fun q => (q.1, t, q.2.2))) = 0 := hw
  have hl' : ((a_q a).modify ((a_q a).length - 1) (fun q => (q.1, t, q.2.2))).length = (a_q a).length := List.length_modify _ _ _
  unfold PR
  rw [zIW_0 hw']
  refine ⟨CV_o h1 (by omega) (by omega) (by omega) (by omega) (by omega) (by omega), ⟨?_, ?_, fun i hi => ?_, fun i q hi => ?_⟩, PN_o h3 (by omega) (by omega) (by omega), c2, fun _ => ?_⟩
  · show _ = Int32.ofNat (5 + ((a_q a).modify ((a_q a).length - 1) _).length)
    rw [gI, if_neg (by omega), hl']; exact p1
  · show ((a_q a).modify ((a_q a).length - 1) _).length ≤ 12
    rw [hl']; exact p2
  · obtain ⟨b1, b2, b3⟩ := p3 i hi
    exact ⟨by rw [gI, if_neg (by omega)]; exact b1, by rw [gI, if_neg (by omega)]; exact b2, fun j t hj => by rw [gI, if_neg (by omega)]; exact b3 j t hj⟩
  · have hi : ((a_q a).modify ((a_q a).length - 1) (fun q => (q.1, t, q.2.2)))[i]? = some q := hi
    rw [mod_last he] at hi
    by_cases z : i = (a_q a).length - 1
    · rw [if_pos z] at hi
      have hie := Option.some.inj hi
      obtain ⟨b1, b2, b3, b4, b5, b6, b7, b8⟩ := p4 _ e he
      rw [← hie, z]
      refine ⟨b1, b2, b3, by rw [gI, if_neg (by omega)]; exact b4, b5, by rw [gI, if_neg (by omega)]; exact b6, ?_, fun j t hj => by rw [gI, if_neg (by omega)]; exact b8 j t hj⟩
      rw [gI, if_pos ⟨rfl, rfl, by omega⟩]
    · rw [if_neg z] at hi
      have hil := (List.getElem?_eq_some_iff.mp hi).1
      obtain ⟨b1, b2, b3, b4, b5, b6, b7, b8⟩ := p4 i q hi
      exact ⟨b1, b2, b3, by rw [gI, if_neg (by omega)]; exact b4, b5, by rw [gI, if_neg (by omega)]; exact b6, by rw [gI, if_neg (by omega)]; exact b7, fun j t hj => by rw [gI, if_neg (by omega)]; exact b8 j t hj⟩
  · show _ = Int32.ofNat (4 + ((a_q a).modify ((a_q a).length - 1) _).length)
    rw [gI, if_neg (by omega), hl']; exact h5 hq
/-- one more parameter -/
theorem c_addPar {t : Int32} {e : zP} (h : PC ci O T N a σ) (he : (a_q a)[(a_q a).length - 1]? = some e) (h4' : e.2.2.1.length < 4) (hw : wN a = 0) : ∃ σ', sm_callM X true (d + 2) 6 [vP (10, ci), vI (Int32.ofNat (4 + (a_q a).length)), vI t] σ = rV σ' ∧ PC ci O T N (qLast a (fun q => (q.1, q.2.1, q.2.2.1 ++ [t], q.2.2.2))) σ' := by
  obtain ⟨hp, h1, h2, h3, h4, h5⟩ := h
  rw [zIW_0 hw] at h1 h2
  obtain ⟨p1, p2, p3, p4⟩ := h2
  have hl : 0 < (a_q a).length := by have := (List.getElem?_eq_some_iff.mp he).1; omega
  have hq : a_q a ≠ [] := List.length_pos_iff.mp hl
  obtain ⟨B1, B2, B3, B4, B5, B6, B7, B8⟩ := p4 _ e he
  rw [show 5 + ((a_q a).length - 1) = 4 + (a_q a).length by omega] at B4 B6 B7
  have hn5 : ¬ Int32.ofNat (4 + (a_q a).length) < 5 := by rw [show (5 : Int32) = Int32.ofNat 5 from rfl, i_lt (by omega) (by omega)]; omega
  have hn6 : Int32.ofNat (4 + (a_q a).length) < Int32.ofNat (5 + (a_q a).length) := by rw [i_lt (by omega) (by omega)]; omega
  have e1 : sm_callM X true (d + 2) 6 [vP (10, ci), vI (Int32.ofNat (4 + (a_q a).length)), vI t] σ = rV (sI (sI σ 37 ci ((4 + (a_q a).length) * 4 + e.2.2.1.length) t) 36 ci (4 + (a_q a).length) (Int32.ofNat (e.2.2.1.length + 1))) := by
    rw [f_X0_addParameter, q_X0_addParameter_0, c_isOwnProc _ p1, bI_r, if_neg hn5, if_pos hn6, if_neg (by decide), ix_nat (by omega) (by decide), B6, if_pos (by rw [show (4 : Int32) = Int32.ofNat 4 from rfl, i_lt (by omega) (by omega)]; exact h4'), ix_nat (by omega) (by decide), B6, show (4 : Int32) = Int32.ofNat 4 from rfl, i_mul, i_add, ix_nat (by omega) (by decide), ix_nat (by omega) (by decide), ix_nat (by omega) (by decide), show (sI σ 37 ci ((4 + (a_q a).length) * 4 + e.2.2.1.length) t).1 36 ci (4 + (a_q a).length) = Int32.ofNat e.2.2.1.length by rw [gI, if_neg (by omega)]; exact B6, i_s]
  obtain ⟨σ', e2, c2, -⟩ := ci_addParameter (X := X) (d := d) (Int32.ofNat (4 + (a_q a).length)) t h4
  rw [e1] at e2
  rw [← rV_inj e2] at c2
  refine ⟨_, e1, PT_o (PT_o hp (by omega) (by omega) (by omega) (by omega)) (by omega) (by omega) (by omega) (by omega), ?_⟩
  have hw' : wN (qLast a (fun q => (q.1, q.2.1, q.2.2.1 ++ [t], q.2.2.2))) = 0 := hw
  have hl' : ((a_q a).modify ((a_q a).length - 1) (fun q => (q.1, q.2.1, q.2.2.1 ++ [t], q.2.2.2))).length = (a_q a).length := List.length_modify _ _ _
  unfold PR
  rw [zIW_0 hw']
  refine ⟨CV_o (CV_o h1 (by omega) (by omega) (by omega) (by omega) (by omega) (by omega)) (by omega) (by omega) (by omega) (by omega) (by omega) (by omega), ⟨?_, ?_, fun i hi => ?_, fun i q hi => ?_⟩, PN_o (PN_o h3 (by omega) (by omega) (by omega)) (by omega) (by omega) (by omega), c2, fun _ => ?_⟩
  · show _ = Int32.ofNat (5 + ((a_q a).modify ((a_q a).length - 1) _).length)
    rw [gI, if_neg (by omega), gI, if_neg (by omega), hl']; exact p1
  · show ((a_q a).modify ((a_q a).length - 1) _).length ≤ 12
    rw [hl']; exact p2
  · obtain ⟨b1, b2, b3⟩ := p3 i hi
    refine ⟨by rw [gI, if_neg (by omega), gI, if_neg (by omega)]; exact b1, by rw [gI, if_neg (by omega), gI, if_neg (by omega)]; exact b2, fun j t hj => ?_⟩
    have : j < 4 := by
      have h1 := (List.getElem?_eq_some_iff.mp hj).1
      have h2 := (five_par i hi).2.2.2
      omega
    rw [gI, if_neg (by omega), gI, if_neg (by omega)]; exact b3 j t hj
  · have hi : ((a_q a).modify ((a_q a).length - 1) (fun q => (q.1, q.2.1, q.2.2.1 ++ [t], q.2.2.2)))[i]? = some q := hi
    rw [mod_last he] at hi
    by_cases z : i = (a_q a).length - 1
    · rw [if_pos z] at hi
      have hie := Option.some.inj hi
      rw [← hie, z, show 5 + ((a_q a).length - 1) = 4 + (a_q a).length by omega]
      have hle : (e.2.2.1 ++ [t]).length = e.2.2.1.length + 1 := by rw [List.length_append]; rfl
      refine ⟨B1, B2, B3, by rw [gI, if_neg (by omega), gI, if_neg (by omega)]; exact B4, by show (e.2.2.1 ++ [t]).length ≤ 4; rw [hle]; omega, ?_, by rw [gI, if_neg (by omega), gI, if_neg (by omega)]; exact B7, fun j u hj => ?_⟩
      · rw [gI, if_pos ⟨rfl, rfl, rfl⟩]
        show _ = Int32.ofNat (e.2.2.1 ++ [t]).length
        rw [hle]
      · have hj : (e.2.2.1 ++ [t])[j]? = some u := hj
        rw [gI, if_neg (by omega)]
        rcases Nat.lt_or_ge j e.2.2.1.length with w | w
        · rw [List.getElem?_append_left w] at hj
          rw [gI, if_neg (by omega)]
          have := B8 j u hj
          rw [show 5 + ((a_q a).length - 1) = 4 + (a_q a).length by omega] at this
          exact this
        · have hz := (List.getElem?_eq_some_iff.mp hj).1
          rw [hle] at hz
          have hj2 : j = e.2.2.1.length := by omega
          subst hj2
          have he : u = t := by simp at hj; exact hj.symm
          rw [gI, if_pos ⟨rfl, rfl, rfl⟩, he]
    · rw [if_neg z] at hi
      have hil := (List.getElem?_eq_some_iff.mp hi).1
      obtain ⟨b1, b2, b3, b4, b5, b6, b7, b8⟩ := p4 i q hi
      refine ⟨b1, b2, b3, by rw [gI, if_neg (by omega), gI, if_neg (by omega)]; exact b4, b5, by rw [gI, if_neg (by omega), gI, if_neg (by omega)]; exact b6, by rw [gI, if_neg (by omega), gI, if_neg (by omega)]; exact b7, fun j t hj => ?_⟩
      have := (List.getElem?_eq_some_iff.mp hj).1
      rw [gI, if_neg (by omega), gI, if_neg (by omega)]; exact b8 j t hj
  · show _ = Int32.ofNat (4 + ((a_q a).modify ((a_q a).length - 1) _).length)
    rw [gI, if_neg (by omega), gI, if_neg (by omega), hl']; exact h5 hq
end
