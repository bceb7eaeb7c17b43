section
/-! NAMES, PROCS AND TYPES IN THE REFERENCE -/
variable {X : Nat × (Nat → Int32)} {d : Nat} {s σ : sm_S} {mi N : Nat} {O : Nat → Nat → Nat → Int32} {T : zT} {a b : zA}
theorem i_m1 : ∀ i : Nat, i < 100 → ¬ Int32.ofNat i = -1 := by decide
theorem m_variable_2 {n : List Int32} (hn : nmOk n) (h : PM mi O T N a σ) : ∀ (m k : Nat) (d2 : sm_V), k + m = (a_k a).length → (∃ j e, (a_k a)[j]? = some e ∧ kFind n ((a_k a).drop k) = some e.2 ∧ sm_go (sm_ZZ X) sm_PP true (sm_callM X true d) 213 2 [vP (23, 0), vL (pk8 n 0), d2, vI (Int32.ofNat k)] [] σ = rI (Int32.ofNat j) σ) ∨ (kFind n ((a_k a).drop k) = none ∧ sm_go (sm_ZZ X) sm_PP true (sm_callM X true d) 213 2 [vP (23, 0), vL (pk8 n 0), d2, vI (Int32.ofNat k)] [] σ = rI (-1) σ)
  | 0, k, d2, hk => by
    obtain ⟨a1, a2, a3, a4, a5⟩ := h.2.2.2.1
    refine Or.inr ⟨by rw [List.drop_eq_nil_of_le (by omega)]; rfl, ?_⟩
    rw [q_X13_variable_2, a2, if_neg (by rw [i_lt (by omega) (by omega)]; omega)]
  | m + 1, k, d2, hk => by
    obtain ⟨a1, a2, a3, a4, a5⟩ := h.2.2.2.1
    have hkl : k < (a_k a).length := by omega
    have hg := List.getElem?_eq_getElem hkl
    obtain ⟨b1, b2, b3, b4, b5⟩ := a5 k _ hg
    rw [q_X13_variable_2, a2, if_pos (by rw [i_lt (by omega) (by omega)]; omega), ix_nat (by omega) (by decide), b1, List.drop_eq_getElem_cons hkl]
    by_cases q : (a_k a)[k].1 = n
    · refine Or.inl ⟨k, _, hg, ?_, ?_⟩
      · unfold kFind; rw [if_pos q]
      · rw [if_pos ((lgc _ _).mpr ((pk8_inj b4 hn).mpr q))]
    · rw [if_neg (fun z => q ((pk8_inj b4 hn).mp ((lgc _ _).mp z))), i_s]
      have e0 : kFind n ((a_k a)[k] :: (a_k a).drop (k + 1)) = kFind n ((a_k a).drop (k + 1)) := by
        show (if (a_k a)[k].1 = n then _ else _) = _
        rw [if_neg q]
      rw [e0]
      exact m_variable_2 hn h m (k + 1) _ (by omega)
theorem m_variable {n : List Int32} (hn : nmOk n) (h : PM mi O T N a σ) : (∃ j e, j < 24 ∧ (a_k a)[j]? = some e ∧ kFind n (a_k a) = some e.2 ∧ sm_callM X true (d + 1) 213 [vP (23, 0), vL (pk8 n 0)] σ = rI (Int32.ofNat j) σ) ∨ (kFind n (a_k a) = none ∧ sm_callM X true (d + 1) 213 [vP (23, 0), vL (pk8 n 0)] σ = rI (-1) σ) := by
  rw [f_X13_variable, q_X13_variable_0]
  rcases m_variable_2 (X := X) (d := d) hn h (a_k a).length 0 vU (by omega) with ⟨j, e, h1, h2, h3⟩ | ⟨h1, h2⟩
  · have := (List.getElem?_eq_some_iff.mp h1).1
    have a3 := h.2.2.2.1.2.2.1
    have a4 := h.2.2.2.1.2.2.2.1
    exact Or.inl ⟨j, e, by omega, h1, h2, h3⟩
  · exact Or.inr ⟨h1, h2⟩
/-- a name is known -/
theorem m_knows {n : List Int32} {t : Int32} (hn : nmOk n) (h : PM mi O T N a σ) (hm : a_m a < 24) : ∃ σ', sm_callM X true (d + 1) 214 [vP (23, 0), vL (pk8 n 0), vI t] σ = rV σ' ∧ PM mi O T N (zKnow n t a) σ' := by
  obtain ⟨h1, h2, h3, h4, h5, h6, h7⟩ := h
  obtain ⟨a1, a2, a3, a4, a5⟩ := h4
  have hk : (a_k a).length < 24 := by omega
  have e1 : sm_callM X true (d + 1) 214 [vP (23, 0), vL (pk8 n 0), vI t] σ = rV (sI (sI (sI (sI (sL σ 71 0 (a_k a).length (pk8 n 0)) 72 0 (a_k a).length t) 73 0 (a_k a).length (Int32.ofNat (a_m a))) 23 0 16 (Int32.ofNat ((a_k a).length + 1))) 23 0 15 (Int32.ofNat (a_m a + 1))) := by
    rw [f_X13_knows, q_X13_knows_0, a2, ix_nat hk (by decide), show (sL σ 71 0 (a_k a).length (pk8 n 0)).1 23 0 16 = Int32.ofNat (a_k a).length from a2, ix_nat hk (by decide), show (sI (sL σ 71 0 (a_k a).length (pk8 n 0)) 72 0 (a_k a).length t).1 23 0 16 = Int32.ofNat (a_k a).length from a2, ix_nat hk (by decide)]
    rw [show (sI (sL σ 71 0 (a_k a).length (pk8 n 0)) 72 0 (a_k a).length t).1 23 0 15 = Int32.ofNat (a_m a) from a1]
    rw [show (sI (sI (sL σ 71 0 (a_k a).length (pk8 n 0)) 72 0 (a_k a).length t) 73 0 (a_k a).length (Int32.ofNat (a_m a))).1 23 0 16 = Int32.ofNat (a_k a).length from a2, i_s]
    rw [show (sI (sI (sI (sL σ 71 0 (a_k a).length (pk8 n 0)) 72 0 (a_k a).length t) 73 0 (a_k a).length (Int32.ofNat (a_m a))) 23 0 16 (Int32.ofNat ((a_k a).length + 1))).1 23 0 15 = Int32.ofNat (a_m a) from a1, i_s]
  refine ⟨_, e1, ?_⟩
  have hl : (a_k a ++ [(n, t, a_m a)]).length = (a_k a).length + 1 := by rw [List.length_append]; rfl
  refine ⟨MT_o (MT_o (MT_o (MT_o (MT_L h1 (by omega)) (by omega)) (by omega)) (by omega)) (by omega), MV_o (MV_o (MV_o (MV_o h2 (by omega)) (by omega)) (by omega)) (by omega), MQp_o (MQp_o (MQp_o (MQp_o (MQp_L h3 (by omega)) (by omega)) (by omega)) (by omega)) (by omega), ⟨?_, ?_, hm, ?_, fun j e hj => ?_⟩, MX_o (a := a) (MX_o (MX_o (MX_o h5 (by omega)) (by omega)) (by omega)) (by omega), h6, OM_I (OM_I (OM_I (OM_I h7 (by omega)) (by omega)) (by omega)) (by omega)⟩
  · rw [gI, if_pos ⟨rfl, rfl, rfl⟩]; rfl
  · show _ = Int32.ofNat (a_k a ++ [(n, t, a_m a)]).length
    rw [gI, if_neg (by omega), gI, if_pos ⟨rfl, rfl, rfl⟩, hl]
  · show (a_k a ++ [(n, t, a_m a)]).length ≤ a_m a + 1
    rw [hl]; omega
  · have hj : (a_k a ++ [(n, t, a_m a)])[j]? = some e := hj
    rcases Nat.lt_or_ge j (a_k a).length with z | z
    · rw [List.getElem?_append_left z] at hj
      obtain ⟨b1, b2, b3, b4, b5⟩ := a5 j e hj
      refine ⟨?_, ?_, ?_, b4, b5⟩
      · rw [gIL, gIL, gIL, gIL]
        show (sL σ 71 0 (a_k a).length (pk8 n 0)).2.1 71 0 j = _
        rw [gL, if_neg (by omega)]; exact b1
      · rw [gI, if_neg (by omega), gI, if_neg (by omega), gI, if_neg (by omega), gI, if_neg (by omega)]; exact b2
      · rw [gI, if_neg (by omega), gI, if_neg (by omega), gI, if_neg (by omega), gI, if_neg (by omega)]; exact b3
    · have hz := (List.getElem?_eq_some_iff.mp hj).1
      rw [hl] at hz
      have hj2 : j = (a_k a).length := by omega
      subst hj2
      have he : e = (n, t, a_m a) := by simp at hj; exact hj.symm
      subst he
      refine ⟨?_, ?_, ?_, hn, hm⟩
      · rw [gIL, gIL, gIL, gIL]
        show (sL σ 71 0 (a_k a).length (pk8 n 0)).2.1 71 0 (a_k a).length = _
        rw [gL, if_pos ⟨rfl, rfl, rfl⟩]
      · rw [gI, if_neg (by omega), gI, if_neg (by omega), gI, if_neg (by omega), gI, if_pos ⟨rfl, rfl, rfl⟩]
      · rw [gI, if_neg (by omega), gI, if_neg (by omega), gI, if_pos ⟨rfl, rfl, rfl⟩]
/-- names are forgotten -/
theorem PM_kn {kn : List (List Int32 × Int32 × Nat)} (h : PM mi O T N a σ) (hk : kn <+: a_k a) : PM mi O T N (aK a kn) (sI σ 23 0 16 (Int32.ofNat kn.length)) := by
  obtain ⟨h1, h2, h3, ⟨a1, a2, a3, a4, a5⟩, h5, h6, h7⟩ := h
  refine ⟨MT_o h1 (by omega), MV_o h2 (by omega), MQp_o h3 (by omega), ⟨by rw [gI, if_neg (by omega)]; exact a1, by rw [gI, if_pos ⟨rfl, rfl, rfl⟩]; rfl, a3, Nat.le_trans hk.length_le a4, fun j e hj => ?_⟩, MX_o (a := a) h5 (by omega), h6, OM_I h7 (by omega)⟩
  obtain ⟨m, hm⟩ := hk
  have hj : kn[j]? = some e := hj
  have hj2 : (a_k a)[j]? = some e := by rw [← hm, List.getElem?_append_left (List.getElem?_eq_some_iff.mp hj).1]; exact hj
  obtain ⟨b1, b2, b3, b4⟩ := a5 j e hj2
  exact ⟨b1, by rw [gI, if_neg (by omega)]; exact b2, by rw [gI, if_neg (by omega)]; exact b3, b4⟩
/-- a proc by its name -/
theorem m_procOf_2 {n : List Int32} (hn : nmOk n) (h : PM mi O T N a σ) : ∀ (m k : Nat) (d2 : sm_V), k + m = (a_q a).length → sm_go (sm_ZZ X) sm_PP true (sm_callM X true (d + 6)) 210 2 [vP (23, 0), vL (pk8 n 0), d2, vI (Int32.ofNat k)] [] σ = rI (match qFind n ((a_q a).drop k) k with | some i => Int32.ofNat i | none => whr n sm_fives 12) σ
  | 0, k, d2, hk => by
    obtain ⟨a1, a2, a3, a4⟩ := h.2.2.1
    rw [q_X13_procOf_2, PM_cd h, rq_t, a1, if_neg (by rw [i_lt (by omega) (by omega)]; omega), m_five hn, bI_r, List.drop_eq_nil_of_le (by omega)]
    rfl
  | m + 1, k, d2, hk => by
    obtain ⟨a1, a2, a3, a4⟩ := h.2.2.1
    have hkl : k < (a_q a).length := by omega
    have hg := List.getElem?_eq_getElem hkl
    obtain ⟨b1, b2, b⟩ := a4 k _ hg
    rw [q_X13_procOf_2, PM_cd h, rq_t, a1, if_pos (by rw [i_lt (by omega) (by omega)]; omega), rq_t, ix_nat (by omega) (by decide), b1, List.drop_eq_getElem_cons hkl]
    by_cases q : (a_q a)[k].1 = n
    · rw [if_pos ((lgc _ _).mpr ((pk8_inj b2 hn).mpr q))]
      unfold qFind
      rw [if_pos q]
    · rw [if_neg (fun z => q ((pk8_inj b2 hn).mp ((lgc _ _).mp z))), i_s]
      have e0 : qFind n ((a_q a)[k] :: (a_q a).drop (k + 1)) k = qFind n ((a_q a).drop (k + 1)) (k + 1) := by
        show (if (a_q a)[k].1 = n then _ else _) = _
        rw [if_neg q]
      rw [e0]
      exact m_procOf_2 hn h m (k + 1) _ (by omega)
theorem m_procOf {n : List Int32} (hn : nmOk n) (h : PM mi O T N a σ) : sm_callM X true (d + 7) 210 [vP (23, 0), vL (pk8 n 0)] σ = rI (pFind n (a_q a)) σ := by
  rw [f_X13_procOf, q_X13_procOf_0]
  exact m_procOf_2 (d := d) hn h (a_q a).length 0 vU (by omega)
theorem PM_nm (h : PM mi O T N a σ) (q : T.1 (a_p a) = 3) : σ.2.1 70 0 (a_p a) = pk8 (T.2.1 (a_p a)) 0 := by
  rw [PM_vl h (by rw [q]; decide)]; unfold mvl; rw [if_pos q]
theorem PM_ty (h : PM mi O T N a σ) (q : T.1 (a_p a) = 5) : σ.2.1 70 0 (a_p a) = T.2.2.1 (a_p a) := by
  rw [PM_vl h (by rw [q]; decide)]; unfold mvl; rw [q, if_neg (by decide), if_neg (by decide), if_pos (by decide)]
theorem SMV_f {f pl : Int32} {p : Nat} {r : sm_R} (h : Thr f (T.2.2.2 p) mi O r) (_hp : pl = T.2.2.2 p) : SMV mi O T N r (.inl (f, p)) := h
/-- a new name may come here -/
theorem m_fresh (hT : TK T N) (h : PM mi O T N a σ) : SMV mi O T N (sm_callM X true (d + 3) 215 [vP (23, 0)] σ) (zFresh T a) := by
  rw [f_X13_fresh, q_X13_fresh_0, PM_ix h, PM_kd h]
  have e0 : zFresh T a = pb (if T.1 (a_p a) = 3 then .inr (0, a) else .inl (1, a_p a)) (fun _ a => match kFind (T.2.1 (a_p a)) (a_k a) with
      | some _ => .inl (3, a_p a)
      | none => if a_m a = 24 then .inl (5, a_p a) else .inr (0, a)) := by
    unfold zFresh
    by_cases q : T.1 (a_p a) = 3
    · rw [if_pos q, if_pos q]; rfl
    · rw [if_neg q, if_neg q]; rfl
  have key : ∀ x : Int32, (x = 0 ↔ ¬ T.1 (a_p a) = 3) → SMV mi O T N (sm_go (sm_ZZ X) sm_PP true (sm_callM X true (d + 2)) 215 19 [vP (23, 0)] [vI x, vP (23, 0)] σ) (zFresh T a) := by
    intro x hx
    rw [q_X13_fresh_19, if_pos rfl, e0]
    refine mbVV (m_form (d := d) h hx) (fun _ a1 σ1 e1 h1 => ?_)
    rw [it_l] at e1
    obtain ⟨q, e1⟩ := e1
    cases e1
    have hn := hT.2.2.2.1 _ q
    rw [PM_ix h1, PM_nm h1 q]
    have hp8 := PM_len h1
    rcases m_variable (X := X) (d := d + 1) hn h1 with ⟨j, e, j24, k1, k2, k3⟩ | ⟨k1, k2⟩
    · rw [k3, bI_r, if_neg (i_m1 j (by omega)), k2, PM_at h1]
      exact m_throw (d := d + 1) h1 h1.1.2.1 (by omega)
    · rw [k2, bI_r, if_pos rfl, k1, h1.2.2.2.1.1]
      have hm := h1.2.2.2.1.2.2.1
      by_cases q2 : a_m a = 24
      · show SMV mi O T N _ (if a_m a = 24 then _ else _)
        rw [if_pos q2, if_pos (by rw [q2]; rfl), PM_at h1]
        exact m_throw (d := d + 1) h1 h1.1.2.1 (by omega)
      · show SMV mi O T N _ (if a_m a = 24 then _ else _)
        rw [if_neg q2, if_neg (fun z : Int32.ofNat (a_m a) = 24 => q2 ((i_eq (b := 24) (by omega) (by decide)).mp z))]
        exact ⟨_, rfl, h1⟩
  by_cases q : T.1 (a_p a) = 3
  · rw [if_pos ((mkd_v _).1.mpr q)]
    exact key 1 ⟨fun z => absurd z (by decide), fun z => absurd q z⟩
  · rw [if_neg (fun z => q ((mkd_v _).1.mp z))]
    exact key 0 ⟨fun _ => q, fun _ => rfl⟩
/-- a type -/
theorem m_type (hT : TK T N) (h : PM mi O T N a σ) : SMI mi O T N (sm_callM X true (d + 4) 216 [vP (23, 0)] σ) (zTy T a) := by
  rw [f_X13_type, q_X13_type_0, PM_ix h, PM_kd h]
  have e0 : zTy T a = pb (if T.1 (a_p a) = 5 then .inr (0, a) else .inl (1, a_p a)) (fun _ a => pb (zN a) (fun _ a1 => if tV T (a_p a) = 36 then .inr (tV T (a_p a), a1) else if T.1 (a_p a1) = 91 then pb (zN a1) (fun _ a2 => pb (zMust T 93 a2) (fun _ a3 => .inr (18 + tV T (a_p a), a3))) else .inr (tV T (a_p a), a1))) := by
    unfold zTy
    by_cases q : T.1 (a_p a) = 5
    · rw [if_pos q, if_pos q]; rfl
    · rw [if_neg q, if_neg q]; rfl
  have key : ∀ x : Int32, (x = 0 ↔ ¬ T.1 (a_p a) = 5) → SMI mi O T N (sm_go (sm_ZZ X) sm_PP true (sm_callM X true (d + 3)) 216 19 [vP (23, 0), vU] [vI x, vP (23, 0)] σ) (zTy T a) := by
    intro x hx
    rw [q_X13_type_19, if_pos rfl, e0]
    refine mbVI (m_form (d := d + 1) h hx) (fun _ a1 σ1 e1 h1 => ?_)
    rw [it_l] at e1
    obtain ⟨q, e1⟩ := e1
    cases e1
    rw [PM_ix h1, PM_ty h1 q]
    refine mbVI (m_next (d := d + 1) hT h1 (by rw [q]; decide) (by rw [q]; decide)) (fun _ a2 σ2 e2 h2 => ?_)
    show SMI mi O T N (if tV T (a_p a) = 36 then _ else _) _
    by_cases q2 : tV T (a_p a) = 36
    · rw [if_pos q2, if_pos q2]
      exact ⟨_, rfl, h2⟩
    · rw [if_neg q2, if_neg q2, m_is h2 (by decide), bI_r]
      by_cases q3 : T.1 (a_p a2) = 91
      · rw [if_pos q3, if_pos q3, if_neg (by decide)]
        refine mbVI (m_next (d := d + 1) hT h2 (by rw [q3]; decide) (by rw [q3]; decide)) (fun _ a3 σ3 e3 h3 => ?_)
        refine mbVI (m_must (d := d) hT h3 (by decide)) (fun _ a4 σ4 e4 h4 => ?_)
        exact ⟨_, rfl, h4⟩
      · rw [if_neg q3, if_neg q3, if_pos rfl]
        exact ⟨_, rfl, h2⟩
  by_cases q : T.1 (a_p a) = 5
  · rw [if_pos ((mkd_v _).2.1.mpr q)]
    exact key 1 ⟨fun z => absurd z (by decide), fun z => absurd q z⟩
  · rw [if_neg (fun z => q ((mkd_v _).2.1.mp z))]
    exact key 0 ⟨fun _ => q, fun _ => rfl⟩
end
