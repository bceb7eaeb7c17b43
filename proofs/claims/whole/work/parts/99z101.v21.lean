section
/-! THE CLASS READS A TEXT -/
variable {X : Nat × (Nat → Int32)} {d : Nat} {s σ : sm_S} {ci N : Nat} {O : Nat → Nat → Nat → Int32} {T : zT} {a b : zA} {t : Int32}
/-- how many parameters the proc has that is being read -/
def nPar (a : zA) : Nat := ((a_q a).getLast?.map (fun q => q.2.2.1.length)).getD 0
/-- between procs -/
def TI (a : zA) : Prop := In0 tyOk a ∧ zL a ≤ a_p a ∧ (a_q a).length ≤ 12 ∧ tyQ a ∧ a_h a = [] ∧ 9 * (a_c a).length ≤ a_p a
/-- in a proc's head -/
def HI (a : zA) : Prop := In0 tyOk a ∧ zL a + 2 ≤ a_p a ∧ a_q a ≠ [] ∧ (a_q a).length ≤ 12 ∧ tyQ a ∧ a_h a = [] ∧ 9 * (a_c a).length + 2 ≤ a_p a ∧ a_m a = nPar a ∧ nPar a ≤ 4 ∧ a_r a = 0
theorem HI_P {p : Nat} (h : HI a) (hp : a_p a ≤ p) : HI (aP a p) := by
  obtain ⟨h1, h2, h3, h4, h5, h6, h7, h8, h9, h10⟩ := h
  exact ⟨h1, by show zL a + 2 ≤ p; omega, h3, h4, h5, h6, by show 9 * (a_c a).length + 2 ≤ p; omega, h8, h9, h10⟩
theorem qL_len {f : zP → zP} : (a_q (qLast a f)).length = (a_q a).length := List.length_modify _ _ _
theorem qL_last {f : zP → zP} {e : zP} (h : (a_q a)[(a_q a).length - 1]? = some e) : (a_q (qLast a f)).getLast? = some (f e) := by
  rw [getLast_at, qL_len]
  show ((a_q a).modify _ f)[_]? = _
  rw [mod_last h, if_pos rfl]
theorem qL_mem {f : zP → zP} {q : zP} (h : q ∈ a_q (qLast a f)) : q ∈ a_q a ∨ ∃ e ∈ a_q a, q = f e := by
  obtain ⟨i, hi⟩ := List.mem_iff_getElem?.mp h
  have hi : ((a_q a).modify ((a_q a).length - 1) f)[i]? = some q := hi
  rw [List.getElem?_modify] at hi
  cases he : (a_q a)[i]? with
  | none => rw [he] at hi; cases hi
  | some e =>
    rw [he] at hi
    by_cases z : (a_q a).length - 1 = i
    · simp [z] at hi
      exact Or.inr ⟨e, List.mem_of_getElem? he, hi.symm⟩
    · simp [z] at hi
      exact Or.inl (by rw [← hi]; exact List.mem_of_getElem? he)
theorem nPar_e {e : zP} (h : (a_q a)[(a_q a).length - 1]? = some e) : nPar a = e.2.2.1.length := by
  unfold nPar; rw [getLast_at, h]; rfl
theorem Par1_H (hT : TK T N) (hi : HI a) (hp : a_p a ≤ 800) (h : zPar1 T a = .inr (t, b)) : HI b ∧ a_p a < a_p b ∧ a_p b ≤ 800 := by
  unfold zPar1 at h
  rw [pb_inr] at h
  obtain ⟨u, a1, h1, h⟩ := h
  have V1 := V_ty hT h1
  obtain ⟨d1, p1, E1⟩ := D_ty hp h1
  have hi1 : HI a1 := by rw [E1]; exact HI_P hi (by have := d1.1; rw [E1] at this; have : a_p a + 1 ≤ p1 := this; omega)
  have l1 := d1.1
  have l2 := d1.2.1
  rw [it_l] at h
  obtain ⟨k1, h⟩ := h
  cases hk : kFind (T.2.1 (a_p a1)) (a_k a1) with
  | some e => rw [hk] at h; cases h
  | none =>
    rw [hk] at h
    have h : (if nPar a1 = 4 then .inl (5, a_p a1) else pb (zN (zKnow (T.2.1 (a_p a1)) u (qLast a1 (fun q => (q.1, q.2.1, q.2.2.1 ++ [u], q.2.2.2))))) (fun _ a2 => .inr (0, a2)) : zR) = .inr (t, b) := h
    rw [it_r, pb_inr] at h
    obtain ⟨n4, _, a2, h2, h3⟩ := h
    obtain ⟨n2, e2⟩ := zN_inr.mp h2
    cases e2
    cases h3
    have n2 : a_p a1 ≠ 800 := n2
    obtain ⟨g1, g2, g3, g4, g5, g6, g7, g8, g9, g10⟩ := hi1
    obtain ⟨e, he⟩ := last_some g3
    have hne : nPar (zKnow (T.2.1 (a_p a1)) u (qLast a1 (fun q => (q.1, q.2.1, q.2.2.1 ++ [u], q.2.2.2)))) = nPar a1 + 1 := by
      unfold nPar
      show ((a_q (qLast a1 _)).getLast?.map _).getD 0 = _
      rw [qL_last he, getLast_at, he]
      show (e.2.2.1 ++ [u]).length = e.2.2.1.length + 1
      rw [List.length_append]; rfl
    refine ⟨⟨⟨g1.1, rfl, KB_know (a := qLast a1 _) g1.2.2 (by show a_m a1 ≠ 24; omega) V1⟩, by show zL a1 + 2 ≤ a_p a1 + 1; omega, ?_, ?_, ?_, g6, by show 9 * (a_c a1).length + 2 ≤ a_p a1 + 1; omega, ?_, ?_, g10⟩, by show a_p a < a_p a1 + 1; omega, by show a_p a1 + 1 ≤ 800; omega⟩
    · show a_q (qLast a1 _) ≠ []
      intro z
      have := qL_len (a := a1) (f := fun q => (q.1, q.2.1, q.2.2.1 ++ [u], q.2.2.2))
      rw [z] at this
      exact g3 (List.length_eq_zero_iff.mp this.symm)
    · show (a_q (qLast a1 _)).length ≤ 12
      rw [qL_len]; exact g4
    · intro q hq
      rcases qL_mem hq with z | ⟨e', he', rfl⟩
      · exact g5 q z
      · refine ⟨(g5 e' he').1, fun x hx => ?_⟩
        rcases List.mem_append.mp hx with w | w
        · exact (g5 e' he').2 x w
        · rcases List.mem_singleton.mp w with rfl; exact V1
    · show a_m a1 + 1 = nPar (zKnow (T.2.1 (a_p a1)) u (qLast a1 _))
      rw [hne, g8]
    · show nPar (zKnow (T.2.1 (a_p a1)) u (qLast a1 _)) ≤ 4
      rw [hne]; omega
theorem Pars_H (hT : TK T N) : ∀ (f : Nat) (a : zA) (t : Int32) (b : zA), HI a → a_p a ≤ 800 → zPars T f a = .inr (t, b) → HI b ∧ a_p a < a_p b ∧ a_p b ≤ 800
  | 0, a, t, b, hi, hp, h => by cases h
  | f + 1, a, t, b, hi, hp, h => by
    rw [zPars, pb_inr] at h
    obtain ⟨_, a1, h1, h⟩ := h
    obtain ⟨i1, l1, l1'⟩ := Par1_H hT hi hp h1
    split at h
    · rw [pb_inr] at h
      obtain ⟨_, a2, h2, h⟩ := h
      obtain ⟨n2, e2⟩ := zN_inr.mp h2
      cases e2
      obtain ⟨i3, l3, l3'⟩ := Pars_H hT f (aP a1 (a_p a1 + 1)) t b (HI_P i1 (by omega)) (by show a_p a1 + 1 ≤ 800; omega) h
      have l3 : a_p a1 + 1 < a_p b := l3
      exact ⟨i3, by omega, l3'⟩
    · cases h; exact ⟨i1, l1, l1'⟩
theorem PNm_H (hi : TI a) (h1p : zL a + 1 ≤ a_p a ∧ 9 * (a_c a).length + 1 ≤ a_p a) (hp : a_p a ≤ 800) (h : zPNm T a = .inr (t, b)) : HI (aR (aM (aK b []) 0) 0) ∧ a_p a < a_p b ∧ a_p b ≤ 800 ∧ wN b = 0 ∧ a_x b = none := by
  unfold zPNm at h
  rw [it_l, it_l, it_r, pb_inr] at h
  obtain ⟨k1, k2, k3, _, a2, h2, h3⟩ := h
  obtain ⟨n2, e2⟩ := zN_inr.mp h2
  cases e2
  cases h3
  have n2 : a_p a ≠ 800 := n2
  obtain ⟨g1, g2, g3, g4, g5, g6⟩ := hi
  have hl : (a_q a ++ [(T.2.1 (a_p a), 38, [], zL a)]).length = (a_q a).length + 1 := by rw [List.length_append]; rfl
  refine ⟨⟨⟨g1.1, g1.2.1, ⟨Nat.zero_le _, Nat.zero_le _, fun e he => (by cases he), fun e he => (by cases he)⟩⟩, by show zL a + 2 ≤ a_p a + 1; omega, ?_, ?_, ?_, g5, by show 9 * (a_c a).length + 2 ≤ a_p a + 1; omega, ?_, ?_, rfl⟩, by show a_p a < a_p a + 1; omega, by show a_p a + 1 ≤ 800; omega, g1.1, g1.2.1⟩
  · show a_q a ++ _ ≠ []
    simp
  · show (a_q a ++ [(T.2.1 (a_p a), 38, [], zL a)]).length ≤ 12
    rw [hl]; omega
  · intro q hq
    have hq : q ∈ a_q a ++ [(T.2.1 (a_p a), 38, [], zL a)] := hq
    rcases List.mem_append.mp hq with z | z
    · exact g4 q z
    · rcases List.mem_singleton.mp z with rfl
      exact ⟨Or.inr (Or.inl rfl), fun t ht => by cases ht⟩
  · show 0 = ((a_q a ++ [(T.2.1 (a_p a), 38, [], zL a)]).getLast?.map (fun q : zP => q.2.2.1.length)).getD 0
    simp
  · show ((a_q a ++ [(T.2.1 (a_p a), 38, [], zL a)]).getLast?.map (fun q : zP => q.2.2.1.length)).getD 0 ≤ 4
    simp
theorem Giv_H (hT : TK T N) (hi : HI a) (hp : a_p a ≤ 800) (h : zGiv T a = .inr (t, b)) : HI b ∧ a_p a ≤ a_p b ∧ a_p b ≤ 800 := by
  unfold zGiv at h
  split at h
  · rw [pb_inr] at h
    obtain ⟨_, a1, h1, h⟩ := h
    obtain ⟨n1, e1⟩ := zN_inr.mp h1
    cases e1
    rw [pb_inr] at h
    obtain ⟨u, a2, h2, h⟩ := h
    have V2 := V_ty hT h2
    have hp1 : a_p (aP a (a_p a + 1)) ≤ 800 := by show a_p a + 1 ≤ 800; omega
    obtain ⟨d2, p2, E2⟩ := D_ty hp1 h2
    cases h
    have l2 : a_p a + 1 + 1 ≤ a_p a2 := d2.1
    have hi2 : HI a2 := by rw [E2]; exact HI_P (a := aP a (a_p a + 1)) (HI_P hi (by omega)) (by have := d2.1; rw [E2] at this; have : a_p a + 1 + 1 ≤ p2 := this; show a_p a + 1 ≤ p2; omega)
    obtain ⟨g1, g2, g3, g4, g5, g6, g7, g8, g9, g10⟩ := hi2
    obtain ⟨e, he⟩ := last_some g3
    have hne : nPar (qLast a2 (fun q => (q.1, u, q.2.2))) = nPar a2 := by
      unfold nPar
      rw [qL_last he, getLast_at, he]; rfl
    refine ⟨⟨g1, g2, ?_, by rw [qL_len]; exact g4, ?_, g6, g7, by show a_m a2 = _; rw [hne]; exact g8, by rw [hne]; exact g9, g10⟩, by show a_p a ≤ a_p a2; omega, d2.2.1⟩
    · intro z
      have := qL_len (a := a2) (f := fun q => (q.1, u, q.2.2))
      rw [z] at this
      exact g3 (List.length_eq_zero_iff.mp this.symm)
    · intro q hq
      rcases qL_mem hq with z | ⟨e', he', rfl⟩
      · exact g5 q z
      · exact ⟨V2, (g5 e' he').2⟩
  · cases h; exact ⟨hi, Nat.le_refl _, hp⟩
theorem Head_H (hT : TK T N) (hi : TI a) (hp : a_p a ≤ 800) (h : zHead T a = .inr (t, b)) : HI b ∧ a_p a < a_p b ∧ a_p b ≤ 800 := by
  unfold zHead at h
  rw [pb_inr] at h
  obtain ⟨_, a1, h1, h⟩ := h
  obtain ⟨-, n1, e1⟩ := zMust_inr.mp h1
  cases e1
  rw [pb_inr] at h
  obtain ⟨_, a2, h2, h⟩ := h
  have hi1 : TI (aP a (a_p a + 1)) := by
    obtain ⟨g1, g2, g3, g4, g5, g6⟩ := hi
    exact ⟨g1, by show zL a ≤ a_p a + 1; omega, g3, g4, g5, by show 9 * (a_c a).length ≤ a_p a + 1; omega⟩
  obtain ⟨i2, l2, l2', -, -⟩ := PNm_H hi1 ⟨by show zL a + 1 ≤ a_p a + 1; have := hi.2.1; omega, by show 9 * (a_c a).length + 1 ≤ a_p a + 1; have := hi.2.2.2.2.2; omega⟩ (by show a_p a + 1 ≤ 800; omega) h2
  have l2 : a_p a + 1 < a_p a2 := l2
  rw [pb_inr] at h
  obtain ⟨_, a3, h3, h⟩ := h
  obtain ⟨-, n3, e3⟩ := zMust_inr.mp h3
  have E3 : a3 = aP (aR (aM (aK a2 []) 0) 0) (a_p a2 + 1) := congrArg Prod.snd e3
  have n3 : a_p a2 ≠ 800 := n3
  have i3 : HI a3 := by rw [E3]; exact HI_P i2 (by show a_p a2 ≤ a_p a2 + 1; omega)
  have p3 : a_p a3 = a_p a2 + 1 := by rw [E3]; rfl
  rw [pb_inr] at h
  obtain ⟨_, a4, h4, h⟩ := h
  have k4 : HI a4 ∧ a_p a3 ≤ a_p a4 ∧ a_p a4 ≤ 800 := by
    split at h4
    · cases h4; exact ⟨i3, Nat.le_refl _, by omega⟩
    · obtain ⟨x1, x2, x3⟩ := Pars_H hT _ _ _ _ i3 (by omega) h4
      exact ⟨x1, by omega, x3⟩
  rw [pb_inr] at h
  obtain ⟨_, a5, h5, h⟩ := h
  obtain ⟨-, n5, e5⟩ := zMust_inr.mp h5
  have E5 : a5 = aP a4 (a_p a4 + 1) := congrArg Prod.snd e5
  have i5 : HI a5 := by rw [E5]; exact HI_P k4.1 (by omega)
  have p5 : a_p a5 = a_p a4 + 1 := by rw [E5]; rfl
  obtain ⟨i6, l6, l6'⟩ := Giv_H hT i5 (by omega) h
  exact ⟨i6, by omega, l6'⟩
theorem Proc_T (hT : TK T N) (hi : TI a) (hp : a_p a ≤ 800) (h : zProc T a = .inr (t, b)) : TI b ∧ a_p a < a_p b ∧ a_p b ≤ 800 := by
  unfold zProc at h
  rw [pb_inr] at h
  obtain ⟨_, a1, h1, h⟩ := h
  obtain ⟨i1, l1, l1'⟩ := Head_H hT hi hp h1
  obtain ⟨g1, g2, g3, g4, g5, g6, g7, g8, g9, g10⟩ := i1
  rw [pb_inr] at h
  obtain ⟨_, a2, h2, h⟩ := h
  obtain ⟨d2, i2, k2⟩ := D_blk (PT_ty hT) 9 _ _ _ (show a_p (aB a1 (a_b a1 + 1)) ≤ 800 from l1') g1 h2
  obtain ⟨D1, D2, D3, D4, D5, D6, D7, D8, D9, D10, D11, D12⟩ := d2
  cases h
  have D1 : a_p a1 + 2 ≤ a_p a2 := D1
  have D3 : zL a2 + a_p a1 + 2 ≤ zL a1 + a_p a2 := D3
  have D12 : 9 * (a_c a2).length + a_p a1 + 2 ≤ 9 * (a_c a1).length + a_p a2 := D12
  have D7 : a_q a2 = a_q a1 := D7
  refine ⟨⟨i2, ?_, by show (a_q a2).length ≤ 12; rw [D7]; exact g4, by show tyQ a2; unfold tyQ; rw [D7]; exact g5, D9.trans g6, by show 9 * (a_c a2).length ≤ a_p a2; omega⟩, by show a_p a < a_p a2; omega, D2⟩
  rw [zL_E]
  show zL a2 + 1 ≤ a_p a2
  omega
end
