section
variable {T : zT} {N : Nat} {a b c a0 : zA} {blk : zA → zR} {t u y : Int32} {P : List Nat}
theorem G_while (hT : TK T N) (hB : SubBG blk) (hD : SubB tyOk blk) (hs : HSt a) (ho : a_o a = 0) (h : zWhile T blk a = .inr (y, b)) : SGr a b := by
  unfold zWhile at h
  rw [pb_inr] at h
  obtain ⟨_, a1, h1, h⟩ := h
  obtain ⟨d1, i1, -⟩ := D_cond hs.2.2.2.2.2 hs.2.2.2.2.1 h1
  obtain ⟨c, pl, hb1, x1, t1, c1, g1, l1⟩ := G_cond hT hs ho h1
  subst hb1
  have s1 := HSt_cond hs x1 t1 c1 i1 d1.2.1
  have z1 : zL (zE c 26 0 0 0 pl) = zL c + 1 := zL_E
  have it1 : (a_i (zE c 26 0 0 0 pl))[zL c]? = some (26, 0, 0, pl, 0, gNow c) := get_end
  have ita : ∃ e', (a_i (zE c 26 0 0 0 pl))[zL a]? = some e' ∧ isAct e'.1 := by
    obtain ⟨-, ⟨L, q1, q2⟩, -⟩ := x1
    have hL : 0 < L.length := by
      have : zL c = zL a + L.length := by unfold zL; rw [q1, List.length_append]
      omega
    refine ⟨L[0], ?_, q2 _ (List.getElem_mem hL)⟩
    have q3 : (a_i a ++ L)[zL a]? = some L[0] := by
      show (a_i a ++ L)[(a_i a).length]? = _
      rw [List.getElem?_append_right (Nat.le_refl _), Nat.sub_self, List.getElem?_eq_getElem hL]
    rw [← q1] at q3
    exact get_app q3
  have k1 : a_k (zE c 26 0 0 0 pl) = a_k a := x1.2.2.2.1
  have gg1 : (gNow (zE c 26 0 0 0 pl)).2 = (gNow c).2 := rfl
  have wc := fun (P : List Nat) (w : WTa P a) => W_cond (pl := pl) x1 t1 w
  generalize hz1 : zE c 26 0 0 0 pl = a1 at *
  rw [pb_inr] at h
  obtain ⟨_, a2, h2, h⟩ := h
  obtain ⟨d2, i2, k2⟩ := hD a1 _ a2 d1.2.1 s1.2.2.2.2.1 h2
  have s2 := hB a1 _ a2 s1 h2
  have it2 := get_pr d2.2.2.2.1 it1
  obtain ⟨e', ita1, ita2⟩ := ita
  have ita3 := get_pr d2.2.2.2.1 ita1
  have g2 : (gNow a2).2 = (gNow c).2 := (gNow_e k2 d2.2.2.2.2.2.2.1 d2.2.2.2.2.2.2.2.2.1).trans gg1
  have ga : gNow a2 = gNow a := gNow_t (g2.trans g1) (s2.2.1.trans hs.2.1.symm)
  have e1 : zL a1 - 1 = zL c := by omega
  have hb := (congrArg Prod.snd (Sum.inr.inj h)).symm
  rw [e1] at hb
  have zj : zL (zE a2 0 0 (zL a) 0 (-1)) = zL a2 + 1 := zL_E
  have hb : b = zX (zE a2 0 0 (zL a) 0 (-1)) (zL c) (zL a2 + 1) := hb
  rw [← zj] at hb
  subst hb
  have tj : a_t (zE a2 0 0 (zL a) 0 (-1)) = [] := by show (a_t a2).drop 0 = []; rw [s2.2.1]; rfl
  refine ⟨fun P hP w => ?_, tj, ?_, CTL_X (CTL_E s2.2.2.2 (by decide))⟩
  · obtain ⟨w1, m1⟩ := wc P w
    have hcl : zL a ≤ zL c := XG_le x1
    obtain ⟨w2, m2⟩ := s2.1 _ (fun k hk => (List.mem_cons.mp hk).elim (fun z => by omega) (fun z => by have := hP k z; omega)) w1
    have hL : Lands (a_i a2) (some (gNow a2)) (zL a) (gNow a2) := by
      have := (m1.trans m2) (zL a) (gNow a) (Or.inr ⟨rfl, _, rfl, gFits.refl _⟩)
      rw [ga] at this ⊢; exact this
    obtain ⟨w3, m3⟩ := WTa_jmp (b := zE a2 0 0 (zL a) 0 (-1)) w2 rfl rfl rfl s2.2.1 hL ⟨e', ita3, ita2⟩ (gNow_t rfl (tj.trans s2.2.1.symm))
    have itc : (a_i (zE a2 0 0 (zL a) 0 (-1)))[zL c]? = some (26, 0, 0, pl, 0, gNow c) := get_app it2
    obtain ⟨w4, m4⟩ := WTa_aimE w3 itc (Or.inr rfl) ⟨tj, fun x hx => by rw [show (gNow (zE a2 0 0 (zL a) 0 (-1))).2 = (gNow a2).2 from rfl, g2] at hx; exact hx, by rw [show (gNow (zE a2 0 0 (zL a) 0 (-1))).2 = (gNow a2).2 from rfl, g2], by rw [show (gNow (zE a2 0 0 (zL a) 0 (-1))).2 = (gNow a2).2 from rfl, g2]⟩
    exact ⟨w4, m1.trans (m2.trans (m3.trans m4))⟩
  · show (a_k a2).Pairwise _
    rw [k2, k1]; exact hs.2.2.1
/-- behind a try: the jump over, and the catch -/
theorem W_catch {l : List zI} {ps : List zP} {ct : List Nat} {gT gC gK g0 : zG} {k0 slot j0 : Nat} (h : WT l ps ct (some gT) (k0 :: P)) (hh : hOk l gT) (hsT : ∀ x ∈ gT.2.1, x.1 < 24) (hT : gT.1 = []) (h0 : l[k0]? = some (33, 0, 0, -1, 0, g0)) (hj : j0 = pos vT l k0) (hj2 : j0 < ct.length) (hsl : slot < 24) (hg0 : gFits g0 gC) (hC : gC.1 = []) (hhC : hOk l gC) (hsC : ∀ x ∈ gC.2.1, x.1 < 24) (hK : gFits (gC.1, gSet slot 36 gC.2.1, gC.2.2) gK) :
    WT ((l ++ [(0, 0, 0, -1, 0, gT)]).modify k0 (fun e => (e.1, Int32.ofNat slot, l.length + 1, e.2.2.2)) ++ [(2, Int32.ofNat slot, 0, -1, 36, gC)]) ps (ct.set j0 (l.length + 1)) (some gK) (l.length :: P) ∧ ∀ j g, Lands l (some gT) j g → Lands ((l ++ [(0, 0, 0, -1, 0, gT)]).modify k0 (fun e => (e.1, Int32.ofNat slot, l.length + 1, e.2.2.2)) ++ [(2, Int32.ofNat slot, 0, -1, 36, gC)]) (some gK) j g := by
  have hk0 := (List.getElem?_eq_some_iff.mp h0).1
  have hf : ∀ x : zI, ((fun e : zI => ((e.1, Int32.ofNat slot, l.length + 1, e.2.2.2) : zI)) x).1 = x.1 ∧ i_g ((fun e : zI => ((e.1, Int32.ofNat slot, l.length + 1, e.2.2.2) : zI)) x) = i_g x ∧ ((fun e : zI => ((e.1, Int32.ofNat slot, l.length + 1, e.2.2.2) : zI)) x).2.2.2.2.1 = x.2.2.2.2.1 := fun x => ⟨rfl, rfl, rfl⟩
  have E1 : Ext (k0 :: l.length :: P) l ps ct (some gT) (l ++ [(0, 0, 0, -1, 0, gT)]) ps ct none := Ext_app (show (0 : Nat) ≠ 2 by decide) rfl
  have W1 : WT (l ++ [(0, 0, 0, -1, 0, gT)]) ps ct none (k0 :: l.length :: P) := by
    refine WT_app (WT_sub h (fun k hk => ?_)) E1 ⟨by show gT.1.length ≤ 80; rw [hT]; exact Nat.zero_le _, hsT, hOk_e (E := E1) hh, hT, fun z => absurd z (by show ¬ falls 0 = true; decide)⟩ (fun z => absurd (List.mem_cons_of_mem _ List.mem_cons_self) z)
    rcases List.mem_cons.mp hk with z | z
    · rw [z]; exact List.mem_cons_self
    · exact List.mem_cons_of_mem _ (List.mem_cons_of_mem _ z)
  have h01 : (l ++ [(0, 0, 0, -1, 0, gT)])[k0]? = some (33, 0, 0, -1, 0, g0) := get_app h0
  have hp1 : pos vT (l ++ [(0, 0, 0, -1, 0, gT)]) k0 = j0 := by rw [pos_app (Nat.le_of_lt hk0), hj]
  have hc : ∀ (j : Nat) (x : zI) (t : Nat), (l ++ [(0, 0, 0, -1, 0, gT)])[j]? = some x → x.1 = 33 → j ∉ k0 :: l.length :: P → ct[pos vT (l ++ [(0, 0, 0, -1, 0, gT)]) j]? = some t → (ct.set j0 (l.length + 1))[pos vT (l ++ [(0, 0, 0, -1, 0, gT)]) j]? = some t := by
    intro j x t hx h33 hP ht
    rw [List.getElem?_set_ne]
    · exact ht
    · intro z
      rw [← hp1] at z
      have := pos_inj (v := vT) h01 rfl hx (by rw [h33]; rfl) z
      exact hP (by rw [← this]; exact List.mem_cons_self)
  have E2 : Ext (k0 :: l.length :: P) (l ++ [(0, 0, 0, -1, 0, gT)]) ps ct none ((l ++ [(0, 0, 0, -1, 0, gT)]).modify k0 (fun e => (e.1, Int32.ofNat slot, l.length + 1, e.2.2.2))) ps (ct.set j0 (l.length + 1)) none := Ext_mod (fun x => ⟨(hf x).1, (hf x).2.1⟩) (fun y hy z => by rw [h01] at hy; cases hy; exact absurd rfl z) hc
  have W2 := WT_modk W1 h01 hf (fun z => absurd rfl z) hc
  have h02 : ((l ++ [(0, 0, 0, -1, 0, gT)]).modify k0 (fun e => (e.1, Int32.ofNat slot, l.length + 1, e.2.2.2)))[k0]? = some (33, Int32.ofNat slot, l.length + 1, -1, 0, g0) := by
    have := get_mod (k := k0) (f := fun e => (e.1, Int32.ofNat slot, l.length + 1, e.2.2.2)) h01
    rw [if_pos rfl] at this; exact this
  have hp2 : pos vT ((l ++ [(0, 0, 0, -1, 0, gT)]).modify k0 (fun e => (e.1, Int32.ofNat slot, l.length + 1, e.2.2.2))) k0 = j0 := by rw [pos_mod (fun e => (hf e).1), hp1]
  have hl2 : ((l ++ [(0, 0, 0, -1, 0, gT)]).modify k0 (fun e => (e.1, Int32.ofNat slot, l.length + 1, e.2.2.2))).length = l.length + 1 := by rw [List.length_modify, List.length_append]; rfl
  have hhC2 : hOk ((l ++ [(0, 0, 0, -1, 0, gT)]).modify k0 (fun e => (e.1, Int32.ofNat slot, l.length + 1, e.2.2.2))) gC := hOk_e (E := E2) (hOk_e (E := E1) hhC)
  have E12 : ∀ j g, Lands l (some gT) j g → Lands ((l ++ [(0, 0, 0, -1, 0, gT)]).modify k0 (fun e => (e.1, Int32.ofNat slot, l.length + 1, e.2.2.2))) none j g := fun j g z => E2.1 j g (E1.1 j g z)
  generalize ((l ++ [(0, 0, 0, -1, 0, gT)]).modify k0 (fun e => (e.1, Int32.ofNat slot, l.length + 1, e.2.2.2))) = m at *
  have E3 : Ext (k0 :: l.length :: P) m ps (ct.set j0 (l.length + 1)) none (m ++ [(2, Int32.ofNat slot, 0, -1, 36, gC)]) ps (ct.set j0 (l.length + 1)) (some gK) := Ext_app0
  refine ⟨WT_unp (k := k0) (WT_app W2 E3 ⟨by show gC.1.length ≤ 80; rw [hC]; exact Nat.zero_le _, hsC, hOk_e (E := E3) hhC2, ⟨hC, slot, hsl, rfl⟩, fun _ => ?_⟩ (fun _ => trivial)) (fun e he => ?_), fun j g z => E3.1 j g (E12 j g z)⟩
  · refine Or.inr ⟨by simp, _, rfl, ?_⟩
    show gFits (gC.1, gSet (Int32.ofNat slot).toNatClampNeg 36 gC.2.1, gC.2.2) gK
    rw [i_tn (by omega)]; exact hK
  · rw [get_app h02] at he
    cases he
    refine ⟨?_, (2, Int32.ofNat slot, 0, -1, 36, gC), ?_, rfl, rfl, hg0⟩
    · rw [pos_app (by omega), hp2, List.getElem?_set_self hj2]
    · show (m ++ [_])[l.length + 1]? = _
      rw [← hl2]; exact get_end
end
