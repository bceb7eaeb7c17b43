section
/-! PROCS IN THE REFERENCE -/
variable {X : Nat × (Nat → Int32)} {d : Nat} {s σ : sm_S} {mi N : Nat} {O : Nat → Nat → Nat → Int32} {T : zT} {a b : zA} {t : Int32}
/-- the last proc is the one that is read now: its code isn't begun yet -/
def HQ (n : Nat) (a : zA) : Prop := a_b a = n ∧ (a_q a).length = n + 1 ∧ ∃ e, (a_q a)[n]? = some e ∧ e.2.2.2 = zL a
theorem HQ_last {n : Nat} {f : zP → zP} (h : HQ n a) (hf : ∀ e, (f e).2.2.2 = e.2.2.2) : HQ n (qLast a f) := by
  obtain ⟨h1, h2, e, h3, h4⟩ := h
  have hl : (a_q a)[(a_q a).length - 1]? = some e := by rw [h2]; exact h3
  refine ⟨h1, by rw [qL_len]; exact h2, f e, ?_, by rw [hf]; exact h4⟩
  show ((a_q a).modify ((a_q a).length - 1) f)[n]? = _
  rw [mod_last hl, if_pos (by omega)]
theorem HQ_know {n : Nat} {nm : List Int32} (h : HQ n a) : HQ n (zKnow nm t a) := h
theorem HQ_P {n p : Nat} (h : HQ n a) : HQ n (aP a p) := h
theorem HQ_ty {n : Nat} {y : Int32} (h : HQ n a) (hp : a_p a ≤ 800) (e : zTy T a = .inr (y, b)) : HQ n b := by
  obtain ⟨-, p, E⟩ := D_ty hp e
  rw [E]; exact h
theorem HQ_par1 {n : Nat} {y : Int32} (h : HQ n a) (hp : a_p a ≤ 800) (e : zPar1 T a = .inr (y, b)) : HQ n b := by
  unfold zPar1 at e
  rw [pb_inr] at e
  obtain ⟨t1, a1, e1, e2⟩ := e
  have h1 := HQ_ty h hp e1
  rw [it_l] at e2
  obtain ⟨-, e2⟩ := e2
  cases hk : kFind (T.2.1 (a_p a1)) (a_k a1) with
  | some v => rw [hk] at e2; cases e2
  | none =>
    rw [hk] at e2
    have e2 := it_r.mp e2
    obtain ⟨-, e2⟩ := e2
    rw [pb_inr] at e2
    obtain ⟨t3, a3, e3, e4⟩ := e2
    obtain ⟨-, e3⟩ := zN_inr.mp e3
    have E3 := congrArg Prod.snd e3
    cases e4
    have E3 : b = _ := E3
    rw [E3]
    exact HQ_P (HQ_know (HQ_last h1 (fun _ => rfl)))
theorem HQ_pars {n : Nat} (hT : TK T N) : ∀ (f : Nat) (a : zA) (y : Int32) (b : zA), HI a → HQ n a → a_p a ≤ 800 → zPars T f a = .inr (y, b) → HQ n b
  | 0, a, y, b, hi, h, hp, e => by cases e
  | f + 1, a, y, b, hi, h, hp, e => by
    rw [zPars, pb_inr] at e
    obtain ⟨t1, a1, e1, e2⟩ := e
    have h1 := HQ_par1 h hp e1
    obtain ⟨hi1, -, hp1⟩ := Par1_H hT hi hp e1
    by_cases k : T.1 (a_p a1) = 44
    · rw [if_pos k, pb_inr] at e2
      obtain ⟨t3, a3, e3, e4⟩ := e2
      obtain ⟨n3, e3⟩ := zN_inr.mp e3
      have E3 : a3 = aP a1 (a_p a1 + 1) := congrArg Prod.snd e3
      subst E3
      exact HQ_pars hT f (aP a1 (a_p a1 + 1)) y b (HI_P (p := a_p a1 + 1) hi1 (by omega)) h1 (by show a_p a1 + 1 ≤ 800; omega) e4
    · rw [if_neg k] at e2
      cases e2; exact h1
theorem HQ_giv {n : Nat} {y : Int32} (h : HQ n a) (hp : a_p a ≤ 800) (e : zGiv T a = .inr (y, b)) : HQ n b := by
  unfold zGiv at e
  by_cases k : T.1 (a_p a) = 58
  · rw [if_pos k, pb_inr] at e
    obtain ⟨t1, a1, e1, e2⟩ := e
    obtain ⟨n1, e1⟩ := zN_inr.mp e1
    have E1 : a1 = aP a (a_p a + 1) := congrArg Prod.snd e1
    rw [pb_inr] at e2
    obtain ⟨t2, a2, e2, e3⟩ := e2
    have h2 := HQ_ty (a := a1) (by rw [E1]; exact h) (by rw [E1]; show a_p a + 1 ≤ 800; omega) e2
    cases e3
    exact HQ_last h2 (fun _ => rfl)
  · rw [if_neg k] at e
    cases e; exact h
/-! what the reference writes -/
theorem MV_L {l : List zI} {t i k : Nat} {x : Int64} (q : MV l mi σ) : MV l mi (sL σ t i k x) := q
theorem MX_L {t i k : Nat} {x : Int64} (q : MX T N a σ) : MX T N a (sL σ t i k x) := q
theorem OM_L {t i k : Nat} {x : Int64} (q : OM mi O σ) : OM mi O (sL σ t i k x) := q
theorem PM_addQ {n : List Int32} (h : PM mi O T N a σ) (hn : nmOk n) (hq : (a_q a).length < 12) (hb : a_b a = (a_q a).length) : PM mi O T N (aQ a (a_q a ++ [(n, 38, [], zL a)])) (sI (sI (sI (sL (sI σ 23 0 12 (Int32.ofNat (a_q a).length)) 58 mi (a_q a).length (pk8 n 0)) 60 mi (a_q a).length 0) 59 mi (a_q a).length 38) 22 mi 0 (Int32.ofNat ((a_q a).length + 1))) := by
  obtain ⟨h1, h2, ⟨p1, p2, p3, p4⟩, h4, h5, h6, h7⟩ := h
  have hl : (a_q a ++ [(n, 38, [], zL a)]).length = (a_q a).length + 1 := by rw [List.length_append]; rfl
  refine ⟨MT_o (MT_o (MT_o (MT_L (MT_o h1 (by omega)) (by omega)) (by omega)) (by omega)) (by omega), MV_o (MV_o (MV_o (MV_L (MV_o h2 (by omega))) (by omega)) (by omega)) (by omega), ⟨?_, ?_, fun _ => ?_, fun i q hi => ?_⟩, MN_o (MN_o (MN_o (MN_L (MN_o h4 (by omega)) (by omega)) (by omega)) (by omega)) (by omega), MX_o (a := a) (MX_o (MX_o (MX_L (MX_o h5 (by omega))) (by omega)) (by omega)) (by omega), h6, OM_I (OM_I (OM_I (OM_L (OM_I h7 (by omega))) (fun _ => rfl)) (fun _ => rfl)) (fun _ => rfl)⟩
  · show _ = Int32.ofNat (a_q a ++ [(n, 38, [], zL a)]).length
    rw [gI, if_pos ⟨rfl, rfl, rfl⟩, hl]
  · show (a_q a ++ [(n, 38, [], zL a)]).length ≤ 12
    omega
  · show _ = Int32.ofNat ((a_q a ++ [(n, 38, [], zL a)]).length - 1)
    rw [hl, gI, if_neg (by omega), gI, if_neg (by omega), gI, if_neg (by omega), gLI, gI, if_pos ⟨rfl, rfl, rfl⟩]; rfl
  · have hi : (a_q a ++ [(n, 38, [], zL a)])[i]? = some q := hi
    rcases Nat.lt_or_ge i (a_q a).length with z | z
    · rw [List.getElem?_append_left z] at hi
      obtain ⟨b1, b2, b3, b4, b5, b6, b7, b8⟩ := p4 i q hi
      refine ⟨?_, b2, b3, fun w => ?_, b5, ?_, ?_, fun j t hj => ?_⟩
      · show (sL (sI σ 23 0 12 _) 58 mi (a_q a).length (pk8 n 0)).2.1 58 mi i = _
        rw [gL, if_neg (by omega)]; exact b1
      · rw [gI, if_neg (by omega), gI, if_neg (by omega), gI, if_neg (by omega), gLI, gI, if_neg (by omega)]; exact b4 w
      · rw [gI, if_neg (by omega), gI, if_neg (by omega), gI, if_neg (by omega), gLI, gI, if_neg (by omega)]; exact b6
      · rw [gI, if_neg (by omega), gI, if_neg (by omega), gI, if_neg (by omega), gLI, gI, if_neg (by omega)]; exact b7
      · rw [gI, if_neg (by omega), gI, if_neg (by omega), gI, if_neg (by omega), gLI, gI, if_neg (by omega)]; exact b8 j t hj
    · have hz := (List.getElem?_eq_some_iff.mp hi).1
      rw [hl] at hz
      have hi2 : i = (a_q a).length := by omega
      subst hi2
      have he : q = (n, 38, [], zL a) := by simp at hi; exact hi.symm
      subst he
      refine ⟨?_, hn, Nat.le_refl _, fun w => ?_, Nat.zero_le _, ?_, ?_, fun j t hj => by cases hj⟩
      · show (sL (sI σ 23 0 12 _) 58 mi (a_q a).length (pk8 n 0)).2.1 58 mi (a_q a).length = _
        rw [gL, if_pos ⟨rfl, rfl, rfl⟩]
      · exfalso
        have w : (a_q a).length < a_b a := w
        omega
      · rw [gI, if_neg (by omega), gI, if_neg (by omega), gI, if_pos ⟨rfl, rfl, rfl⟩]; rfl
      · rw [gI, if_neg (by omega), gI, if_pos ⟨rfl, rfl, rfl⟩]
theorem MQ_last {f : zP → zP} {e : zP} {l : List zI} {ps : List zP} {nb : Nat} {σ' : sm_S} (q : MQp l ps nb mi σ) (he : ps[ps.length - 1]? = some e) (h22 : σ'.1 22 mi 0 = σ.1 22 mi 0) (h12 : σ'.1 23 0 12 = σ.1 23 0 12) (h58 : σ'.2.1 58 = σ.2.1 58)
    (ho : ∀ i, i ≠ ps.length - 1 → (∀ q, ps[i]? = some q → σ'.1 62 mi i = σ.1 62 mi i ∧ σ'.1 60 mi i = σ.1 60 mi i ∧ σ'.1 59 mi i = σ.1 59 mi i ∧ ∀ j, j < 4 → σ'.1 61 mi (4 * i + j) = σ.1 61 mi (4 * i + j)))
    (h1 : (f e).1 = e.1) (h2 : (f e).2.2.2 = e.2.2.2) (h62 : σ'.1 62 mi (ps.length - 1) = σ.1 62 mi (ps.length - 1)) (h4 : (f e).2.2.1.length ≤ 4) (h60 : σ'.1 60 mi (ps.length - 1) = Int32.ofNat (f e).2.2.1.length) (h59 : σ'.1 59 mi (ps.length - 1) = (f e).2.1) (h61 : ∀ j t, (f e).2.2.1[j]? = some t → σ'.1 61 mi (4 * (ps.length - 1) + j) = t) : MQp l (ps.modify (ps.length - 1) f) nb mi σ' := by
  obtain ⟨p1, p2, p3, p4⟩ := q
  have hne : ps ≠ [] := fun z => by rw [z] at he; cases he
  refine ⟨by rw [h22, List.length_modify]; exact p1, by rw [List.length_modify]; exact p2, fun _ => by rw [h12, List.length_modify]; exact p3 hne, fun i q hi => ?_⟩
  rw [mod_last he] at hi
  by_cases z : i = ps.length - 1
  · rw [if_pos z] at hi
    cases hi
    subst z
    obtain ⟨b1, b2, b3, b4, b5, b6, b7, b8⟩ := p4 _ e he
    exact ⟨by rw [h58, h1]; exact b1, by rw [h1]; exact b2, by rw [h2]; exact b3, fun w => by rw [h62, h2]; exact b4 w, h4, h60, h59, h61⟩
  · rw [if_neg z] at hi
    obtain ⟨b1, b2, b3, b4, b5, b6, b7, b8⟩ := p4 i q hi
    obtain ⟨o1, o2, o3, o4⟩ := ho i z q hi
    refine ⟨by rw [h58]; exact b1, b2, b3, fun w => by rw [o1]; exact b4 w, b5, by rw [o2]; exact b6, by rw [o3]; exact b7, fun j t hj => ?_⟩
    have : j < q.2.2.1.length := (List.getElem?_eq_some_iff.mp hj).1
    rw [o4 j (by omega)]; exact b8 j t hj
theorem PM_giv {e : zP} (h : PM mi O T N a σ) (he : (a_q a)[(a_q a).length - 1]? = some e) : PM mi O T N (qLast a (fun q => (q.1, t, q.2.2))) (sI σ 59 mi ((a_q a).length - 1) t) := by
  obtain ⟨h1, h2, h3, h4, h5, h6, h7⟩ := h
  obtain ⟨b1, b2, b3, b4, b5, b6, b7, b8⟩ := h3.2.2.2 _ e he
  refine ⟨MT_o h1 (by omega), MV_o h2 (by omega), ?_, MN_o h4 (by omega), MX_o (a := a) h5 (by omega), h6, OM_I h7 (fun _ => rfl)⟩
  refine MQ_last (f := fun q => (q.1, t, q.2.2)) h3 he (by rw [gI, if_neg (by omega)]) (by rw [gI, if_neg (by omega)]) rfl (fun i hi q hq => ⟨by rw [gI, if_neg (by omega)], by rw [gI, if_neg (by omega)], by rw [gI, if_neg (by omega)], fun j hj => by rw [gI, if_neg (by omega)]⟩) rfl rfl (by rw [gI, if_neg (by omega)]) b5 (by rw [gI, if_neg (by omega)]; exact b6) (by rw [gI, if_pos ⟨rfl, rfl, rfl⟩]) (fun j t' hj => by rw [gI, if_neg (by omega)]; exact b8 j t' hj)
theorem PM_par {e : zP} (h : PM mi O T N a σ) (he : (a_q a)[(a_q a).length - 1]? = some e) (h4' : e.2.2.1.length < 4) : PM mi O T N (qLast a (fun q => (q.1, q.2.1, q.2.2.1 ++ [t], q.2.2.2))) (sI (sI σ 61 mi (4 * ((a_q a).length - 1) + e.2.2.1.length) t) 60 mi ((a_q a).length - 1) (Int32.ofNat (e.2.2.1.length + 1))) := by
  obtain ⟨h1, h2, h3, h4, h5, h6, h7⟩ := h
  obtain ⟨b1, b2, b3, b4, b5, b6, b7, b8⟩ := h3.2.2.2 _ e he
  have hl : (e.2.2.1 ++ [t]).length = e.2.2.1.length + 1 := by rw [List.length_append]; rfl
  refine ⟨MT_o (MT_o h1 (by omega)) (by omega), MV_o (MV_o h2 (by omega)) (by omega), ?_, MN_o (MN_o h4 (by omega)) (by omega), MX_o (a := a) (MX_o h5 (by omega)) (by omega), h6, OM_I (OM_I h7 (fun _ => rfl)) (fun _ => rfl)⟩
  refine MQ_last (f := fun q => (q.1, q.2.1, q.2.2.1 ++ [t], q.2.2.2)) h3 he (by rw [gI, if_neg (by omega), gI, if_neg (by omega)]) (by rw [gI, if_neg (by omega), gI, if_neg (by omega)]) rfl (fun i hi q hq => ⟨by rw [gI, if_neg (by omega), gI, if_neg (by omega)], by rw [gI, if_neg (by omega), gI, if_neg (by omega)], by rw [gI, if_neg (by omega), gI, if_neg (by omega)], fun j hj => by rw [gI, if_neg (by omega), gI, if_neg (by omega)]⟩) rfl rfl (by rw [gI, if_neg (by omega), gI, if_neg (by omega)]) (by show (e.2.2.1 ++ [t]).length ≤ 4; omega) (by show _ = Int32.ofNat (e.2.2.1 ++ [t]).length; rw [hl, gI, if_pos ⟨rfl, rfl, rfl⟩]) (by rw [gI, if_neg (by omega), gI, if_neg (by omega)]; exact b7) (fun j t' hj => ?_)
  have hj : (e.2.2.1 ++ [t])[j]? = some t' := hj
  rcases Nat.lt_or_ge j e.2.2.1.length with z | z
  · rw [List.getElem?_append_left z] at hj
    rw [gI, if_neg (by omega), gI, if_neg (by omega)]; exact b8 j t' hj
  · have hz := (List.getElem?_eq_some_iff.mp hj).1
    rw [hl] at hz
    have hj2 : j = e.2.2.1.length := by omega
    subst hj2
    have he2 : t' = t := by simp at hj; exact hj.symm
    subst he2
    rw [gI, if_neg (by omega), gI, if_pos ⟨rfl, rfl, rfl⟩]
/-- a proc's code begins -/
theorem PM_beg {n : Nat} (h : PM mi O T N a σ) (hq : HQ n a) : PM mi O T N (aB a (a_b a + 1)) (sI σ 62 mi n (σ.1 22 mi 6)) := by
  obtain ⟨h1, h2, ⟨p1, p2, p3, p4⟩, h4, h5, h6, h7⟩ := h
  obtain ⟨q1, q2, e, q3, q4⟩ := hq
  refine ⟨MT_o h1 (by omega), MV_o h2 (by omega), ⟨by rw [gI, if_neg (by omega)]; exact p1, p2, fun z => by rw [gI, if_neg (by omega)]; exact p3 z, fun i q hi => ?_⟩, MN_o h4 (by omega), MX_o (a := a) h5 (by omega), h6, OM_I h7 (fun _ => rfl)⟩
  obtain ⟨b1, b2, b3, b4, b5, b6, b7, b8⟩ := p4 i q hi
  refine ⟨b1, b2, b3, fun w => ?_, b5, by rw [gI, if_neg (by omega)]; exact b6, by rw [gI, if_neg (by omega)]; exact b7, fun j t hj => by rw [gI, if_neg (by omega)]; exact b8 j t hj⟩
  have w : i < a_b a + 1 := w
  by_cases z : i = n
  · subst z
    have hqe : q = e := Option.some.inj (hi.symm.trans q3)
    subst hqe
    rw [gI, if_pos ⟨rfl, rfl, rfl⟩, h2.1, q4]; rfl
  · rw [gI, if_neg (by omega)]; exact b4 (by omega)
end
