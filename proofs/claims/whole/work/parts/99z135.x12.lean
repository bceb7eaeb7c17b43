section
variable {T : zT} {N : Nat} {a b c a0 : zA} {blk : zA → zR} {t u y : Int32} {P : List Nat}
def SubBG (blk : zA → zR) : Prop := ∀ a y b, HSt a → blk a = .inr (y, b) → SGr a b
theorem gNow_e (h1 : a_k b = a_k a) (h2 : a_q b = a_q a) (h3 : a_h b = a_h a) : (gNow b).2 = (gNow a).2 := by
  unfold gNow; dsimp only; rw [h1, h2, h3]
theorem gNow_t (h : (gNow b).2 = (gNow a).2) (ht : a_t b = a_t a) : gNow b = gNow a := by
  show (a_t b, (gNow b).2) = (a_t a, (gNow a).2)
  rw [h, ht]
theorem HSt_D (h : HSt a) (hs : SGr a b) (hq : a_q b = a_q a) (hi : In0 tyOk b) (hp : a_p b ≤ 800) : HSt b :=
  ⟨QB_k ⟨by rw [hq]; exact h.1.1, by rw [hq]; exact h.1.2.1⟩ hi, hs.2.1, hs.2.2.1, hs.2.2.2, hi, hp⟩
/-- a jump back -/
theorem WTa_jmp {tgt : Nat} (h : WTa P a) (hi : a_i b = a_i a ++ [(0, 0, tgt, -1, 0, gNow a)]) (hq : a_q b = a_q a) (hc : a_c b = a_c a) (ht : a_t a = []) (hL : Lands (a_i a) (some (gNow a)) tgt (gNow a)) (ha : ∃ e', (a_i a)[tgt]? = some e' ∧ isAct e'.1) (hg : gNow b = gNow a) : WTa P b ∧ LM a b := by
  obtain ⟨w1, w2, w3⟩ := h
  have E : Ext P (a_i a) (a_q a) (a_c a) (some (gNow a)) (a_i a ++ [(0, 0, tgt, -1, 0, gNow a)]) (a_q a) (a_c a) (some (gNow b)) := Ext_app (show (0 : Nat) ≠ 2 by decide) rfl
  obtain ⟨e', h1, h2⟩ := ha
  refine ⟨⟨?_, ?_, by rw [hg]; exact w3⟩, ?_⟩
  · rw [hq, hi, hc]
    refine WT_app w1 E ⟨by show (a_t a).length ≤ 80; rw [ht]; exact Nat.zero_le _, w3, hOk_e (E := E) w2, ht, fun z => absurd z (by show ¬ falls 0 = true; decide)⟩ (fun z => ⟨E.1 _ _ hL, Or.inr ⟨e', get_app h1, h2⟩⟩)
  · rw [hg, hi]; exact hOk_e (E := E) w2
  · intro j g z
    rw [hi]; exact E.1 j g z
/-- a branch that waits for its aim -/
theorem W_cond {pl : Int32} (hx : XG a c) (ht : a_t c = [36]) (w : WTa P a) : WTa (zL c :: P) (zE c 26 0 0 0 pl) ∧ LM a (zE c 26 0 0 0 pl) := by
  have w1 := hx.1 P w
  obtain ⟨r1, r2⟩ := WTa_pend (b := zE c 26 0 0 0 pl) (op := 26) (arg := 0) (ty := 0) (pl := pl) w1 rfl rfl (fun _ _ h => h) (one80 ht) (by decide) ht (fun _ => gNx_f (by decide)) (hOk_w (g := gNow c) (hOk_pre w1.2.1 (List.prefix_append _ _)) (fun _ h => h) rfl rfl) w1.2.2
  exact ⟨r1, hx.2.2.2.2.trans r2⟩
/-- a jump that waits for its aim -/
theorem W_jump (ht : a_t a = []) (w : WTa P a) : WTa (zL a :: P) (zE a 0 0 0 0 (-1)) ∧ LM a (zE a 0 0 0 0 (-1)) :=
  WTa_pend (b := zE a 0 0 0 0 (-1)) (op := 0) (arg := 0) (ty := 0) (pl := -1) w rfl rfl (fun _ _ h => h) (by rw [ht]; exact Nat.zero_le _) (by decide) ht (fun z => absurd z (by decide)) (hOk_w (g := gNow a) (hOk_pre w.2.1 (List.prefix_append _ _)) (fun _ h => h) rfl rfl) w.2.2
theorem WTa_sub {P' : List Nat} (h : WTa P a) (hP : ∀ k ∈ P, k ∈ P') : WTa P' a := ⟨WT_sub h.1 hP, h.2⟩
theorem CTL_X {k tgt : Nat} (h : CTL a) : CTL (zX a k tgt) := by
  unfold CTL zL at *
  show (a_c a).length = pos vT ((a_i a).modify k _) ((a_i a).modify k _).length
  rw [pos_mod (f := fun e : zI => (e.1, e.2.1, tgt, e.2.2.2)) (fun _ => rfl), List.length_modify]; exact h
theorem CTL_E {op : Nat} {arg ty pl : Int32} {tgt : Nat} (h : CTL a) (ho : op ≠ 33) : CTL (zE a op arg tgt ty pl) :=
  CTL_app h (L := [_]) rfl (fun e he => by rw [List.mem_singleton.mp he]; exact ho) rfl
theorem HSt_cond {pl : Int32} (hs : HSt a) (hx : XG a c) (ht : a_t c = [36]) (hc : a_c c = a_c a) (hi : In0 tyOk (zE c 26 0 0 0 pl)) (hp : a_p c ≤ 800) : HSt (zE c 26 0 0 0 pl) := by
  refine ⟨QB_x hs.1 (b := c) hx, ?_, ?_, CTL_E (CTL_x hs.2.2.2.1 hx hc) (by decide), hi, hp⟩
  · show (a_t c).drop 1 = []
    rw [ht]; rfl
  · show (a_k c).Pairwise _
    rw [hx.2.2.2.1]; exact hs.2.2.1
theorem G_if (hT : TK T N) (hB : SubBG blk) (hD : SubB tyOk blk) (hs : HSt a) (ho : a_o a = 0) (h : zIf T blk a = .inr (y, b)) : SGr a b := by
  unfold zIf at h
  rw [pb_inr] at h
  obtain ⟨_, a1, h1, h⟩ := h
  obtain ⟨d1, i1, -⟩ := D_cond hs.2.2.2.2.2 hs.2.2.2.2.1 h1
  obtain ⟨c, pl, hb1, x1, t1, c1, g1, l1⟩ := G_cond hT hs ho h1
  subst hb1
  have s1 := HSt_cond hs x1 t1 c1 i1 d1.2.1
  have z1 : zL (zE c 26 0 0 0 pl) = zL c + 1 := zL_E
  have it1 : (a_i (zE c 26 0 0 0 pl))[zL c]? = some (26, 0, 0, pl, 0, gNow c) := get_end
  have k1 : a_k (zE c 26 0 0 0 pl) = a_k a := x1.2.2.2.1
  have gg1 : (gNow (zE c 26 0 0 0 pl)).2 = (gNow c).2 := rfl
  have wc := fun (P : List Nat) (w : WTa P a) => W_cond (pl := pl) x1 t1 w
  generalize hz1 : zE c 26 0 0 0 pl = a1 at *
  rw [pb_inr] at h
  obtain ⟨_, a2, h2, h⟩ := h
  obtain ⟨d2, i2, k2⟩ := hD a1 _ a2 d1.2.1 s1.2.2.2.2.1 h2
  have s2 := hB a1 _ a2 s1 h2
  have it2 := get_pr d2.2.2.2.1 it1
  have g2 : (gNow a2).2 = (gNow c).2 := (gNow_e k2 d2.2.2.2.2.2.2.1 d2.2.2.2.2.2.2.2.2.1).trans gg1
  have e1 : zL a1 - 1 = zL c := by omega
  rw [e1] at h
  split at h
  · rw [pb_inr] at h
    obtain ⟨_, a3, h3, h⟩ := h
    obtain ⟨n3, e3⟩ := zN_inr.mp h3
    cases e3
    rw [pb_inr] at h
    obtain ⟨_, a4, h4, h⟩ := h
    have hb := (congrArg Prod.snd (Sum.inr.inj h)).symm
    have zj : zL (zE a2 0 0 0 0 (-1)) = zL a2 + 1 := zL_E
    have cj : CTL (zE a2 0 0 0 0 (-1)) := CTL_E s2.2.2.2 (by decide)
    have itj : (a_i (zE a2 0 0 0 0 (-1)))[zL a2]? = some (0, 0, 0, -1, 0, gNow a2) := get_end
    have itc : (a_i (zE a2 0 0 0 0 (-1)))[zL c]? = some (26, 0, 0, pl, 0, gNow c) := get_app it2
    have n3 : a_p a2 ≠ 800 := n3
    have gj : (gNow (zE a2 0 0 0 0 (-1))).2 = (gNow a2).2 := rfl
    have tj : a_t (zE a2 0 0 0 0 (-1)) = [] := by show (a_t a2).drop 0 = []; rw [s2.2.1]; rfl
    have wj := fun (P : List Nat) (w : WTa P a2) => W_jump s2.2.1 w
    have ij : In0 tyOk (zE a2 0 0 0 0 (-1)) := i2
    have qj : a_q (zE a2 0 0 0 0 (-1)) = a_q a2 := rfl
    have hj : a_h (zE a2 0 0 0 0 (-1)) = a_h a2 := rfl
    have kj : a_k (zE a2 0 0 0 0 (-1)) = a_k a2 := rfl
    have pj : a_p (zE a2 0 0 0 0 (-1)) = a_p a2 := rfl
    generalize hzj : zE a2 0 0 0 0 (-1) = aj at *
    rw [← zj] at h4
    have sX : HSt (aP (zX aj (zL c) (zL aj)) (a_p (zX aj (zL c) (zL aj)) + 1)) := by
      refine ⟨QB_k ⟨?_, ?_⟩ ij, tj, ?_, CTL_X cj, ij, by show a_p aj + 1 ≤ 800; rw [pj]; have := d2.2.1; omega⟩
      · show ∀ q ∈ a_q aj, _
        rw [qj, d2.2.2.2.2.2.2.1]; exact s1.1.1
      · show (a_q aj).length ≤ 12
        rw [qj, d2.2.2.2.2.2.2.1]; exact s1.1.2.1
      · show (a_k aj).Pairwise _
        rw [kj, k2, k1]; exact hs.2.2.1
    obtain ⟨d4, i4, k4⟩ := hD _ _ a4 sX.2.2.2.2.2 sX.2.2.2.2.1 h4
    have s4 := hB _ _ a4 sX h4
    have itx : (a_i (zX aj (zL c) (zL aj)))[zL a2]? = some (0, 0, 0, -1, 0, gNow a2) := by
      have := get_mod (k := zL c) (f := fun e => (e.1, e.2.1, zL aj, e.2.2.2)) itj
      have hlt := (List.getElem?_eq_some_iff.mp it2).1
      rw [if_neg (by unfold zL at hlt ⊢; omega)] at this
      exact this
    have it4 : (a_i a4)[zL a2]? = some (0, 0, 0, -1, 0, gNow a2) := get_pr d4.2.2.2.1 itx
    have g4 : (gNow a4).2 = (gNow a2).2 := (gNow_e k4 d4.2.2.2.2.2.2.1 d4.2.2.2.2.2.2.2.2.1).trans gj
    have zx : zL (zX aj (zL c) (zL aj)) = zL aj := zL_mod (b := aj) rfl
    subst hb
    refine ⟨fun P hP w => ?_, s4.2.1, ?_, CTL_X s4.2.2.2⟩
    · obtain ⟨w1, m1⟩ := wc P w
      have hcl : zL a ≤ zL c := XG_le x1
      obtain ⟨w2, m2⟩ := s2.1 _ (fun k hk => (List.mem_cons.mp hk).elim (fun z => by omega) (fun z => by have := hP k z; omega)) w1
      obtain ⟨w3, m3⟩ := wj _ w2
      have w3' : WTa (zL c :: zL a2 :: P) aj := WTa_sub w3 (fun k hk => by
        rcases List.mem_cons.mp hk with z | z
        · rw [z]; exact List.mem_cons_of_mem _ List.mem_cons_self
        · rcases List.mem_cons.mp z with z | z
          · rw [z]; exact List.mem_cons_self
          · exact List.mem_cons_of_mem _ (List.mem_cons_of_mem _ z))
      obtain ⟨w4, m4⟩ := WTa_aimE w3' itc (Or.inr rfl) ⟨tj, fun x hx => by rw [gj, g2] at hx; exact hx, by rw [gj, g2], by rw [gj, g2]⟩
      have hle : zL a1 ≤ zL a2 := d2.2.2.2.1.length_le
      obtain ⟨w5, m5⟩ := s4.1 _ (fun k hk => (List.mem_cons.mp hk).elim (fun z => by show k < zL (zX aj (zL c) (zL aj)); omega) (fun z => by have := hP k z; show k < zL (zX aj (zL c) (zL aj)); omega)) w4
      obtain ⟨w6, m6⟩ := WTa_aimE w5 it4 (Or.inl ⟨rfl, s2.2.1⟩) ⟨s4.2.1, fun x hx => by rw [g4] at hx; exact hx, by rw [g4], by rw [g4]⟩
      exact ⟨w6, m1.trans (m2.trans (m3.trans (m4.trans (LM.trans (b := aP (zX aj (zL c) (zL aj)) (a_p (zX aj (zL c) (zL aj)) + 1)) (LM.refl _) (m5.trans m6)))))⟩
    · show (a_k a4).Pairwise _
      rw [k4]; show (a_k aj).Pairwise _
      rw [kj, k2, k1]; exact hs.2.2.1
  · have hb := (congrArg Prod.snd (Sum.inr.inj h)).symm
    subst hb
    refine ⟨fun P hP w => ?_, s2.2.1, ?_, CTL_X s2.2.2.2⟩
    · obtain ⟨w1, m1⟩ := wc P w
      have hcl : zL a ≤ zL c := XG_le x1
      obtain ⟨w2, m2⟩ := s2.1 _ (fun k hk => (List.mem_cons.mp hk).elim (fun z => by omega) (fun z => by have := hP k z; omega)) w1
      obtain ⟨w3, m3⟩ := WTa_aimE w2 it2 (Or.inr rfl) ⟨s2.2.1, fun x hx => by rw [g2] at hx; exact hx, by rw [g2], by rw [g2]⟩
      exact ⟨w3, m1.trans (m2.trans m3)⟩
    · show (a_k a2).Pairwise _
      rw [k2, k1]; exact hs.2.2.1
end
