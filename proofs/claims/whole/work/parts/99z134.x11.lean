section
variable {T : zT} {N : Nat} {a b c a0 : zA} {blk : zA → zR} {t u y : Int32} {P : List Nat}
theorem SG_e {op : Nat} {arg ty pl : Int32} {a4 : zA} (hb : b = zE a4 op arg 0 ty pl) (hk : KW a) (hc : CTL a) (hx : XG a a4) (hc4 : a_c a4 = a_c a) (hl : (a_t a4).length ≤ 80) (ho : op ≠ 2 ∧ op ≠ 0 ∧ op ≠ 26 ∧ op ≠ 33) (ht : tOk (a_q a4) (op, arg, 0, pl, ty, gNow a4)) (hf : falls op = true → gFits (gNx (a_q a4) (zL a4) (op, arg, 0, pl, ty, gNow a4)) (effS (a_q a4) op arg ty (a_t a4), (gNow a4).2)) (he : effS (a_q a4) op arg ty (a_t a4) = []) : SGr a b := SG_end hk hc hx hc4 hb hl ho ht hf he
/-- an expression at a statement -/
theorem G_e (hT : TK T N) (h : zExp T a = .inr (t, b)) (hs : HSt a) (ho : a_o a = 0) (hp : a_p a ≤ 800) : XG a b ∧ a_t b = [t] ∧ a_c b = a_c a ∧ (gNow b).2 = (gNow a).2 ∧ zL a < zL b := by
  obtain ⟨hq, ht, hk, hc, hi, -⟩ := hs
  obtain ⟨x1, -⟩ := D_Exp hp h
  obtain ⟨g1, g2, g3, -, -⟩ := SubG_u (G_X hT 11) h hq (by rw [ht]; exact Nat.zero_le _) (by omega)
  refine ⟨g1, by rw [g2, ht], eqx_c' x1.1, ?_, g3⟩
  obtain ⟨k1, -, -, k4, -, k6, -⟩ := x1.1
  unfold gNow; dsimp only; rw [k1, k4, k6]
theorem HSt_P {p : Nat} (h : HSt a) (hp : p ≤ 800) : HSt (aP a p) := ⟨h.1, h.2.1, h.2.2.1, h.2.2.2.1, h.2.2.2.2.1, hp⟩
theorem one80 {S : List Int32} (h : S = [t]) : S.length ≤ 80 := by rw [h]; exact Nat.le_of_ble_eq_true rfl
theorem G_ret (hT : TK T N) (hs : HSt a) (ho : a_o a = 0) (h : zRet T a = .inr (y, b)) : SGr a b := by
  have hs' := hs
  obtain ⟨hq, ht, hk, hc, hi, hp⟩ := hs
  unfold zRet at h
  rw [pb_inr] at h
  obtain ⟨_, a1, h1, h⟩ := h
  obtain ⟨n1, e1⟩ := zN_inr.mp h1
  cases e1
  split at h
  · rw [it_l, pb_inr] at h
    obtain ⟨cg, _, a2, h2, h⟩ := h
    obtain ⟨n2, e2⟩ := zN_inr.mp h2
    cases e2
    have hb := (congrArg Prod.snd (Sum.inr.inj h)).symm
    exact SG_e hb hk hc (XG.refl a) rfl (by show (a_t a).length ≤ 80; rw [ht]; exact Nat.zero_le _) (by decide) (Or.inr ⟨rfl, cg⟩) (fun z => absurd z (by decide)) (by show (a_t a).drop 0 = []; rw [ht]; rfl)
  · rw [pb_inr] at h
    obtain ⟨t1, a2, h2, h⟩ := h
    obtain ⟨x2, t2, c2, g2, -⟩ := G_e hT h2 (HSt_P hs' (by omega)) ho (by show a_p a + 1 ≤ 800; omega)
    rw [it_l, it_l, pb_inr] at h
    obtain ⟨-, ⟨cg, cf⟩, _, a3, h3, h⟩ := h
    obtain ⟨n3, e3⟩ := zN_inr.mp h3
    cases e3
    have hb := (congrArg Prod.snd (Sum.inr.inj h)).symm
    have gg : (gNow a2).2.2.1 = (gNow a).2.2.1 := by rw [g2]; rfl
    refine SG_e hb hk hc (XG_P x2) c2 (one80 t2) (by decide) (Or.inl ⟨rfl, ?_, t1, [], t2, ?_⟩) (fun z => absurd z (by decide)) (by show (a_t a2).drop 1 = []; rw [t2]; rfl)
    · show (gNow a2).2.2.1 ≠ 38
      rw [gg]; exact cg
    · show cFit t1 (gNow a2).2.2.1 = 1
      rw [gg]; exact cf
theorem G_say (hT : TK T N) (hs : HSt a) (ho : a_o a = 0) (h : zSay T a = .inr (y, b)) : SGr a b := by
  have hs' := hs
  obtain ⟨hq, ht, hk, hc, hi, hp⟩ := hs
  unfold zSay at h
  rw [pb_inr] at h
  obtain ⟨_, a1, h1, h⟩ := h
  obtain ⟨n1, e1⟩ := zN_inr.mp h1
  cases e1
  rw [pb_inr] at h
  obtain ⟨t1, a2, h2, h⟩ := h
  obtain ⟨x2, t2, c2, g2, -⟩ := G_e hT h2 (HSt_P hs' (by omega)) ho (by show a_p a + 1 ≤ 800; omega)
  rw [it_l, it_l, pb_inr] at h
  obtain ⟨-, cf, _, a3, h3, h⟩ := h
  obtain ⟨n3, e3⟩ := zN_inr.mp h3
  cases e3
  have hb := (congrArg Prod.snd (Sum.inr.inj h)).symm
  by_cases q : t1 = 36
  · subst q
    rw [if_pos rfl] at hb
    exact SG_e hb hk hc (XG_P x2) c2 (one80 t2) (by decide) ⟨[], t2⟩ (fun _ => gNx_f (by decide)) (by show (a_t a2).drop 1 = []; rw [t2]; rfl)
  · rw [if_neg q] at hb
    exact SG_e hb hk hc (XG_P x2) c2 (one80 t2) (by decide) ⟨t1, [], t2, cf.resolve_left q⟩ (fun _ => gNx_f (by decide)) (by show (a_t a2).drop 1 = []; rw [t2]; rfl)
theorem G_fail (hT : TK T N) (hs : HSt a) (ho : a_o a = 0) (h : zFail T a = .inr (y, b)) : SGr a b := by
  have hs' := hs
  obtain ⟨hq, ht, hk, hc, hi, hp⟩ := hs
  unfold zFail at h
  rw [pb_inr] at h
  obtain ⟨_, a1, h1, h⟩ := h
  obtain ⟨n1, e1⟩ := zN_inr.mp h1
  cases e1
  rw [pb_inr] at h
  obtain ⟨t1, a2, h2, h⟩ := h
  obtain ⟨x2, t2, c2, g2, -⟩ := G_e hT h2 (HSt_P hs' (by omega)) ho (by show a_p a + 1 ≤ 800; omega)
  rw [it_l, it_l, pb_inr] at h
  obtain ⟨-, cf, _, a3, h3, h⟩ := h
  obtain ⟨n3, e3⟩ := zN_inr.mp h3
  cases e3
  have hb := (congrArg Prod.snd (Sum.inr.inj h)).symm
  subst cf
  exact SG_e hb hk hc (XG_P x2) c2 (one80 t2) (by decide) ⟨[], t2⟩ (fun z => absurd z (by decide)) (by show (a_t a2).drop 1 = []; rw [t2]; rfl)
/-- the condition of if and while: what it leaves -/
theorem G_cond {p0 : Nat} (hT : TK T N) (hs : HSt a) (ho : a_o a = 0) (h : zCond T p0 a = .inr (y, b)) : ∃ c pl, b = zE c 26 0 0 0 pl ∧ XG a c ∧ a_t c = [36] ∧ a_c c = a_c a ∧ (gNow c).2 = (gNow a).2 ∧ zL a < zL c := by
  obtain ⟨hq, ht, hk, hc, hi, hp⟩ := hs
  unfold zCond zCon at h
  rw [pb_inr] at h
  obtain ⟨_, a1, h1, h⟩ := h
  obtain ⟨n1, e1⟩ := zN_inr.mp h1
  cases e1
  rw [pb_inr] at h
  obtain ⟨_, a2, h2, h⟩ := h
  obtain ⟨c2, n2, e2⟩ := zOpens_inr.mp h2
  cases e2
  rw [pb_inr] at h
  obtain ⟨t1, a3, h3, h⟩ := h
  rw [it_l, it_l, pb_inr] at h
  obtain ⟨-, cf, _, a4, h4, h⟩ := h
  obtain ⟨n4, e4⟩ := zN_inr.mp h4
  cases e4
  have hb := (congrArg Prod.snd (Sum.inr.inj h)).symm
  have n2 : a_p a + 1 ≠ 800 := n2
  obtain ⟨x1, -⟩ := D_X 10 _ _ _ (by show a_p a + 1 + 1 ≤ 800; omega) h3
  obtain ⟨g1, g2, g3, -, -⟩ := SubG_u (G_X hT 10) h3 hq (by show (a_t a).length ≤ _; rw [ht]; exact Nat.zero_le _) (by show a_o a + 1 ≤ 10; omega)
  subst cf
  have g2 : a_t a3 = [36] := by rw [← ht]; exact g2
  refine ⟨_, _, hb, g1, g2, (eqx_c' x1.1 : a_c a3 = _), ?_, g3⟩
  obtain ⟨k1, -, -, k4, -, k6, -⟩ := x1.1
  have k1 : a_k a3 = a_k a := k1
  have k4 : a_q a3 = a_q a := k4
  have k6 : a_h a3 = a_h a := k6
  show (gNow a3).2 = (gNow a).2
  unfold gNow; dsimp only; rw [k1, k4, k6]
end
