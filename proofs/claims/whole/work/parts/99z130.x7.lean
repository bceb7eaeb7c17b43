section
variable {T : zT} {N : Nat} {a b c a0 : zA} {sub : zA → zR} {t u y : Int32} {P : List Nat}
theorem UG_S {n : Nat} (h : UG a b y) : UG a (aS b n) y := h
theorem fit1 {us : List Int32} {t1 : Int32} (hl : us.length = 1) (h : ∀ (i : Nat) (u t : Int32), us[i]? = some u → [t1][i]? = some t → cFit u t = 1) : ∃ u1, us = [u1] ∧ cFit u1 t1 = 1 := by
  match us, hl with
  | [u1], _ => exact ⟨u1, rfl, h 0 u1 t1 rfl rfl⟩
theorem fit2 {us : List Int32} {t1 t2 : Int32} (hl : us.length = 2) (h : ∀ (i : Nat) (u t : Int32), us[i]? = some u → [t1, t2][i]? = some t → cFit u t = 1) : ∃ u1 u2, us = [u1, u2] ∧ cFit u1 t1 = 1 ∧ cFit u2 t2 = 1 := by
  match us, hl with
  | [u1, u2], _ => exact ⟨u1, u2, rfl, h 0 u1 t1 rfl rfl, h 1 u2 t2 rfl rfl⟩
theorem fit3 {us : List Int32} {t1 t2 t3 : Int32} (hl : us.length = 3) (h : ∀ (i : Nat) (u t : Int32), us[i]? = some u → [t1, t2, t3][i]? = some t → cFit u t = 1) : ∃ u1 u2 u3, us = [u1, u2, u3] ∧ cFit u1 t1 = 1 ∧ cFit u2 t2 = 1 ∧ cFit u3 t3 = 1 := by
  match us, hl with
  | [u1, u2, u3], _ => exact ⟨u1, u2, u3, rfl, h 0 u1 t1 rfl rfl, h 1 u2 t2 rfl rfl, h 2 u3 t3 rfl rfl⟩
/-- only an int fits an int -/
theorem cFit_36 (h : cFit u 36 = 1) : u = 36 := by
  unfold cFit at h
  by_cases q : u = 37
  · rw [if_pos q] at h; exact absurd h (by decide)
  · rw [if_neg q] at h
    by_cases r : u = 36
    · exact r
    · rw [if_neg r] at h
      unfold cBel at h
      rw [if_neg (show ¬ (36 : Int32) < 0 by decide), if_neg (show ¬ (36 : Int32) < 36 by decide)] at h
      split at h
      · exact absurd h (by decide)
      · split at h <;> exact absurd h (by decide)
theorem ofN_5 {i : Nat} : Int32.ofNat i + 5 = Int32.ofNat (5 + i) := by
  rw [show (5 : Int32) = Int32.ofNat 5 from rfl, ← Int32.ofNat_add, Nat.add_comm]
theorem G_call (hs : SubG sub) (hq : QB a) (hw : (a_w a).1 = 0) (hS : (a_t a).length ≤ 5 + 6 * a_o a) (h : zCall T sub a = .inr (y, b)) : UG a b y := by
  unfold zCall at h
  rw [it_r, pb_inr] at h
  obtain ⟨c0, _, a1, h1, h2⟩ := h
  obtain ⟨n1, e1⟩ := zN_inr.mp h1
  cases e1
  rw [pb_inr] at h2
  obtain ⟨_, a2, h3, h4⟩ := h2
  obtain ⟨⟨c1, c2⟩, n2, e2⟩ := zOpens_inr.mp h3
  cases e2
  have c2 : a_o a < 10 := c2
  rw [pb_inr] at h4
  obtain ⟨n, a3, h5, h6⟩ := h4
  rw [it_l, pb_inr] at h6
  obtain ⟨c3, _, a4, h7, h8⟩ := h6
  obtain ⟨n4, e4⟩ := zN_inr.mp h7
  cases e4
  have hp4 : (qPar (a_q a) (pFind (T.2.1 (a_p a)) (a_q a))).length ≤ 4 := by
    rcases pFind_x hq.2.1 c0 with ⟨i, p, i1, i2, i3⟩ | ⟨i, i1, i3⟩
    · rw [i3]; unfold qPar
      rw [if_pos (by rw [show (12 : Int32) = Int32.ofNat 12 from rfl, i_lt (by omega) (by omega)]; exact i1), i_tn (by omega), i2]
      exact hq.1 p (List.mem_of_getElem? i2)
    · rw [i3, (qPar_n (qPar_d i i1).2.1).1, (qPar_d i i1).1]; exact (qPar_d i i1).2.2.2.2
  obtain ⟨x3, o3, w3, vs, t3, g3, v4, f3⟩ : XG a a3 ∧ a_o a3 = a_o a + 1 ∧ (a_w a3).1 = 0 ∧ ∃ vs : List Int32, a_t a3 = vs.reverse ++ a_t a ∧ n = Int32.ofNat vs.length ∧ vs.length ≤ (qPar (a_q a) (pFind (T.2.1 (a_p a)) (a_q a))).length ∧ (∀ (i : Nat) (u t : Int32), vs[i]? = some u → (qPar (a_q a) (pFind (T.2.1 (a_p a)) (a_q a)))[i]? = some t → cFit u t = 1) := by
    split at h5
    · cases h5
      exact ⟨XG.refl a, rfl, hw, [], rfl, rfl, Nat.zero_le _, fun i u t hi => by cases hi⟩
    · exact G_args hs hp4 hS c2 801 0 (aP (aO (aP a (a_p a + 1)) (a_o a + 1)) _) n a3 [] hq rfl rfl rfl (fun i u t hi => by cases hi) h5
  have hvl : vs.length = (qPar (a_q a) (pFind (T.2.1 (a_p a)) (a_q a))).length := by
    rw [g3] at c3
    exact (i_eq (by omega) (by omega)).mp c3
  have hl3 : (a_t a3).length ≤ 80 := by rw [t3, List.length_append, List.length_reverse]; omega
  have h8 := Sum.inr.inj h8
  have hy : y = qGiv (a_q a) (pFind (T.2.1 (a_p a)) (a_q a)) := (congrArg Prod.fst h8).symm
  have hb := (congrArg Prod.snd h8).symm
  have hd : (vs.reverse ++ a_t a).drop vs.length = a_t a := by rw [← List.length_reverse, List.drop_left]
  rcases pFind_x hq.2.1 c0 with ⟨i, p, i1, i2, i3⟩ | ⟨i, i1, i3⟩
  · have q12 : Int32.ofNat i < 12 := by rw [show (12 : Int32) = Int32.ofNat 12 from rfl, i_lt (by omega) (by omega)]; exact i1
    have hqp : qPar (a_q a) (Int32.ofNat i) = p.2.2.1 := by unfold qPar; rw [if_pos q12, i_tn (by omega), i2]; rfl
    have hqg : qGiv (a_q a) (Int32.ofNat i) = p.2.1 := by unfold qGiv; rw [if_pos q12, i_tn (by omega), i2]; rfl
    rw [i3, hqp] at hvl f3
    rw [i3, hqg] at hy
    have hb : b = aS (zE (aP (aO a3 (a_o a3 - 1)) (a_p a3 + 1)) 27 (Int32.ofNat (5 + i)) 0 p.2.1 (T.2.2.2 (a_p a))) 4 := by
      have hb : b = _ := hb
      rw [hb]; dsimp only
      rw [i3, if_pos q12, hqg, ofN_5]; rfl
    subst hb
    have hx : XG (aP (aO a3 (a_o a3 - 1)) (a_p a3 + 1)) (zE (aP (aO a3 (a_o a3 - 1)) (a_p a3 + 1)) 27 (Int32.ofNat (5 + i)) 0 p.2.1 (T.2.2.2 (a_p a))) :=
      XG_E (by decide) (by decide) (by decide) ⟨i, p, vs, a_t a, by show (a_q a3)[i]? = _; rw [x3.2.2.1]; exact i2, i1, rfl, t3, ⟨hvl, f3⟩, rfl⟩ hl3
    refine ⟨XG_S (x3.trans hx), by show a_o a3 - 1 = _; omega, Or.inl ⟨w3, ?_, ?_⟩⟩
    · show [p.2.1] ++ (a_t a3).drop (qPar (a_q a3) (Int32.ofNat (5 + i) - 5)).length = _
      rw [show Int32.ofNat (5 + i) - 5 = Int32.ofNat i from i_sub (p := 5), x3.2.2.1, hqp, ← hvl, t3, hd, hy]; rfl
    · show zL a < zL (zE _ _ _ _ _ _)
      rw [zL_E]; have := XG_le x3; show zL a < zL a3 + 1; omega
  · obtain ⟨d1, d2, d3, d4, d5⟩ := qPar_d i i1
    obtain ⟨m1, m2⟩ := qPar_n (ps := a_q a) d2
    rw [i3, m1, d1] at hvl f3
    rw [i3, m2, d4] at hy
    have hb : b = aS (zE (aP (aO a3 (a_o a3 - 1)) (a_p a3 + 1)) (28 + i) 0 0 (fivG i) (T.2.2.2 (a_p a))) 4 := by
      have hb : b = _ := hb
      rw [hb]; dsimp only
      rw [i3, if_neg d2, m2, d4, d3]; rfl
    subst hb
    have key : tOk (a_q a3) (28 + i, 0, 0, T.2.2.2 (a_p a), fivG i, gNow (aP (aO a3 (a_o a3 - 1)) (a_p a3 + 1))) ∧ zPops (a_q a3) (28 + i) 0 = vs.length ∧ zPush (28 + i) = true := by
      have hg : (i_g ((28 + i, 0, 0, T.2.2.2 (a_p a), fivG i, gNow (aP (aO a3 (a_o a3 - 1)) (a_p a3 + 1))) : zI)).1 = vs.reverse ++ a_t a := t3
      match i, i1 with
      | 0, _ =>
        obtain ⟨u1, rfl, f1⟩ := fit1 hvl f3
        refine ⟨⟨a_t a, ?_, rfl⟩, rfl, rfl⟩
        rw [hg, cFit_36 f1]; rfl
      | 1, _ =>
        obtain ⟨u1, u2, rfl, f1, f2⟩ := fit2 hvl f3
        refine ⟨⟨u2, a_t a, ?_, f2, rfl⟩, rfl, rfl⟩
        rw [hg, cFit_36 f1]; rfl
      | 2, _ =>
        obtain ⟨u1, u2, rfl, f1, f2⟩ := fit2 hvl f3
        exact ⟨⟨u2, u1, a_t a, hg, f2, f1, rfl⟩, rfl, rfl⟩
      | 3, _ =>
        obtain ⟨u1, u2, u3, rfl, f1, f2, f3⟩ := fit3 hvl f3
        refine ⟨⟨u1, a_t a, ?_, f1, rfl⟩, rfl, rfl⟩
        rw [hg, cFit_36 f2, cFit_36 f3]; rfl
      | 4, _ =>
        have : vs = [] := List.eq_nil_of_length_eq_zero hvl
        subst this
        exact ⟨rfl, rfl, rfl⟩
    have hx : XG (aP (aO a3 (a_o a3 - 1)) (a_p a3 + 1)) (zE (aP (aO a3 (a_o a3 - 1)) (a_p a3 + 1)) (28 + i) 0 0 (fivG i) (T.2.2.2 (a_p a))) :=
      XG_E (by omega) (by omega) ⟨by omega, by omega⟩ key.1 hl3
    refine ⟨XG_S (x3.trans hx), by show a_o a3 - 1 = _; omega, Or.inl ⟨w3, ?_, ?_⟩⟩
    · show (bif zPush (28 + i) then [fivG i] else []) ++ (a_t a3).drop (zPops (a_q a3) (28 + i) 0) = _
      rw [key.2.1, key.2.2, t3, hd, hy]; rfl
    · show zL a < zL (zE _ _ _ _ _ _)
      rw [zL_E]; have := XG_le x3; show zL a < zL a3 + 1; omega
end
