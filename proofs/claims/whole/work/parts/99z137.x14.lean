section
variable {T : zT} {N : Nat} {a b c a0 : zA} {blk : zA → zR} {t u y : Int32} {P : List Nat}
/-- a try begins -/
theorem W_try {p : Nat} (ht : a_t a = []) (w : WTa P a) : WTa (zL a :: P) (aC (aH (zE (aP a p) 33 0 0 0 (-1)) (zL a :: a_h a)) (a_c a ++ [zL a])) ∧ LM a (aC (aH (zE (aP a p) 33 0 0 0 (-1)) (zL a :: a_h a)) (a_c a ++ [zL a])) := by
  refine WTa_pend (a := a) (op := 33) (arg := 0) (ty := 0) (pl := -1) w rfl rfl (fun j t h => ?_) (by rw [ht]; exact Nat.zero_le _) (by decide) ht (fun _ => ?_) ?_ w.2.2
  · show (a_c a ++ [zL a])[j]? = some t
    rw [List.getElem?_append_left (List.getElem?_eq_some_iff.mp h).1]; exact h
  · rw [gNx_33]
    refine ⟨?_, fun x hx => hx, rfl, rfl⟩
    show (a_t a).drop 0 = a_t a
    rfl
  · intro j H hj
    have hj : zL a :: a_h a = j :: H := hj
    injection hj with h1 h2
    subst h1 h2
    exact ⟨_, get_end, rfl, rfl, fun x hx => hx, rfl⟩
theorem CTL_try {p : Nat} (h : CTL a) : CTL (aC (aH (zE (aP a p) 33 0 0 0 (-1)) (zL a :: a_h a)) (a_c a ++ [zL a])) := by
  show (a_c a ++ [zL a]).length = pos vT (a_i a ++ [_]) (a_i a ++ [_]).length
  rw [pos_L, List.length_append, h]; rfl
/-- a try is ended -/
theorem W_tried {H0 : List Nat} {k0 : Nat} (ht : a_t a = []) (hH : a_h a = k0 :: H0) (hh : hOk (a_i a) ([], (gNow a).2.1, (gNow a).2.2.1, H0)) (w : WTa P a) : WTa P (aH (zE a 34 0 0 0 (-1)) H0) ∧ LM a (aH (zE a 34 0 0 0 (-1)) H0) := by
  refine ⟨WTa_app (op := 34) (arg := 0) (ty := 0) (pl := -1) w rfl rfl rfl (by rw [ht]; exact Nat.zero_le _) (by decide) (by decide) ⟨ht, k0, H0, hH⟩ (fun _ => ⟨rfl, fun x hx => hx, rfl, ?_⟩) ?_ w.2.2, ?_⟩
  · show H0 = (a_h a).tail
    rw [hH]; rfl
  · exact hOk_w (g := ([], (gNow a).2.1, (gNow a).2.2.1, H0)) (hOk_pre hh (List.prefix_append _ _)) (fun _ h => h) rfl rfl
  · exact (Ext_app (P := []) (ps := []) (ct := []) (g := gNow a) (e := (34, 0, 0, -1, 0, gNow a)) (show (34 : Nat) ≠ 2 by decide) rfl).1
theorem G_try (hT : TK T N) (hB : SubBG blk) (hD : SubB tyOk blk) (hs : HSt a) (h : zTry T blk a = .inr (y, b)) : SGr a b := by
  obtain ⟨hq, hat, hk, hc, hi, hp⟩ := hs
  unfold zTry at h
  rw [pb_inr] at h
  obtain ⟨_, a1, h1, h⟩ := h
  obtain ⟨n1, e1⟩ := zN_inr.mp h1
  cases e1
  rw [pb_inr] at h
  obtain ⟨_, a2, h2, h⟩ := h
  have h2 : blk (aC (aH (zE (aP a (a_p a + 1)) 33 0 0 0 (-1)) (zL a :: a_h a)) (a_c a ++ [zL a])) = _ := h2
  have wS := fun (P : List Nat) (w : WTa P a) => W_try (p := a_p a + 1) hat w
  have sS : HSt (aC (aH (zE (aP a (a_p a + 1)) 33 0 0 0 (-1)) (zL a :: a_h a)) (a_c a ++ [zL a])) :=
    ⟨hq, by show (a_t a).drop 0 = []; rw [hat]; rfl, hk, CTL_try hc, hi, by show a_p a + 1 ≤ 800; omega⟩
  have hS1 : a_h (aC (aH (zE (aP a (a_p a + 1)) 33 0 0 0 (-1)) (zL a :: a_h a)) (a_c a ++ [zL a])) = zL a :: a_h a := rfl
  have kS1 : a_k (aC (aH (zE (aP a (a_p a + 1)) 33 0 0 0 (-1)) (zL a :: a_h a)) (a_c a ++ [zL a])) = a_k a := rfl
  have qS1 : a_q (aC (aH (zE (aP a (a_p a + 1)) 33 0 0 0 (-1)) (zL a :: a_h a)) (a_c a ++ [zL a])) = a_q a := rfl
  have cS1 : a_c (aC (aH (zE (aP a (a_p a + 1)) 33 0 0 0 (-1)) (zL a :: a_h a)) (a_c a ++ [zL a])) = a_c a ++ [zL a] := rfl
  have iS1 : (a_i (aC (aH (zE (aP a (a_p a + 1)) 33 0 0 0 (-1)) (zL a :: a_h a)) (a_c a ++ [zL a])))[zL a]? = some (33, 0, 0, -1, 0, gNow a) := get_end
  have pS1 : a_i a <+: a_i (aC (aH (zE (aP a (a_p a + 1)) 33 0 0 0 (-1)) (zL a :: a_h a)) (a_c a ++ [zL a])) := List.prefix_append _ _
  have zS1 : zL (aC (aH (zE (aP a (a_p a + 1)) 33 0 0 0 (-1)) (zL a :: a_h a)) (a_c a ++ [zL a])) = zL a + 1 := zL_E (a := aP a _)
  have tS1 : pos vT (a_i (aC (aH (zE (aP a (a_p a + 1)) 33 0 0 0 (-1)) (zL a :: a_h a)) (a_c a ++ [zL a]))) (zL a) = (a_c a).length := by
    exact (pos_app (l := a_i a) (k := zL a) (Nat.le_refl _)).trans hc.symm
  generalize aC (aH (zE (aP a (a_p a + 1)) 33 0 0 0 (-1)) (zL a :: a_h a)) (a_c a ++ [zL a]) = s1 at *
  obtain ⟨d2, i2, k2⟩ := hD s1 _ a2 sS.2.2.2.2.2 sS.2.2.2.2.1 h2
  have s2 := hB s1 _ a2 sS h2
  have hh2 : a_h a2 = zL a :: a_h a := d2.2.2.2.2.2.2.2.2.1.trans hS1
  have kk2 : a_k a2 = a_k a := k2.trans kS1
  have qq2 : a_q a2 = a_q a := d2.2.2.2.2.2.2.1.trans qS1
  have gg2 : (gNow a2).2.1 = (gNow a).2.1 ∧ (gNow a2).2.2.1 = (gNow a).2.2.1 := by unfold gNow; dsimp only; rw [kk2, qq2]; exact ⟨rfl, rfl⟩
  have it2 := get_pr d2.2.2.2.1 iS1
  have pre2 : a_i a <+: a_i a2 := pS1.trans d2.2.2.2.1
  have pos2 : pos vT (a_i a2) (zL a) = (a_c a).length := by
    rw [← tS1]
    obtain ⟨r, hr⟩ := (show a_i s1 <+: a_i a2 from d2.2.2.2.1)
    rw [← hr]; exact pos_app (by show zL a ≤ zL s1; omega)
  have cc2 : (a_c a).length < (a_c a2).length := by
    have := d2.2.2.2.2.2.2.2.2.2.2.1.length_le
    rw [cS1, List.length_append] at this
    have : (a_c a).length + 1 ≤ (a_c a2).length := this
    omega
  have hle2 : zL a + 1 ≤ zL a2 := by rw [← zS1]; exact d2.2.2.2.1.length_le
  have hp2 := d2.2.1
  rw [pb_inr] at h
  obtain ⟨_, a3, h3, h⟩ := h
  have h3 : zMust T 206 (zE (aH (zE a2 34 0 0 0 (-1)) (a_h a)) 0 0 0 0 (-1)) = _ := h3
  have wT := fun (P : List Nat) (hh : hOk (a_i a2) ([], (gNow a2).2.1, (gNow a2).2.2.1, a_h a)) (w : WTa P a2) => W_tried s2.2.1 hh2 hh w
  have zT : zL (aH (zE a2 34 0 0 0 (-1)) (a_h a)) = zL a2 + 1 := zL_E
  have iT : a_i (aH (zE a2 34 0 0 0 (-1)) (a_h a)) = a_i a2 ++ [(34, 0, 0, -1, 0, gNow a2)] := rfl
  have tT : a_t (aH (zE a2 34 0 0 0 (-1)) (a_h a)) = [] := by show (a_t a2).drop 0 = []; rw [s2.2.1]; rfl
  have gT : gNow (aH (zE a2 34 0 0 0 (-1)) (a_h a)) = gNow a := by
    refine gNow_t (gNow_e (b := aH (zE a2 34 0 0 0 (-1)) (a_h a)) kk2 qq2 rfl) (tT.trans hat.symm)
  have kT : a_k (aH (zE a2 34 0 0 0 (-1)) (a_h a)) = a_k a := kk2
  have qT : a_q (aH (zE a2 34 0 0 0 (-1)) (a_h a)) = a_q a := qq2
  have cT : a_c (aH (zE a2 34 0 0 0 (-1)) (a_h a)) = a_c a2 := rfl
  have hT1 : a_h (aH (zE a2 34 0 0 0 (-1)) (a_h a)) = a_h a := rfl
  have mT : a_m (aH (zE a2 34 0 0 0 (-1)) (a_h a)) = a_m a2 := rfl
  have wnT : wN (aH (zE a2 34 0 0 0 (-1)) (a_h a)) = 0 := i2.1
  have pT : a_p (aH (zE a2 34 0 0 0 (-1)) (a_h a)) = a_p a2 := rfl
  have CT : CTL (aH (zE a2 34 0 0 0 (-1)) (a_h a)) := CTL_E (a := a2) s2.2.2.2 (by decide)
  generalize aH (zE a2 34 0 0 0 (-1)) (a_h a) = t1 at *
  obtain ⟨-, n3, e3⟩ := zMust_inr.mp h3
  cases e3
  rw [pb_inr] at h
  obtain ⟨_, a4, h4, h⟩ := h
  obtain ⟨-, n4, e4⟩ := zMust_inr.mp h4
  cases e4
  rw [pb_inr] at h
  obtain ⟨sl, a5, h5, h⟩ := h
  obtain ⟨-, -, m5, n5, e5⟩ := zNewN_inr h5
  cases e5
  rw [pb_inr] at h
  obtain ⟨_, a7, h7, h⟩ := h
  obtain ⟨-, n7, e7⟩ := zMust_inr.mp h7
  cases e7
  have m5 : a_m t1 ≠ 24 := m5
  have n3 : a_p t1 ≠ 800 := n3
  have n4 : a_p t1 + 1 ≠ 800 := n4
  have n5 : a_p t1 + 1 + 1 ≠ 800 := n5
  have n7 : a_p t1 + 1 + 1 + 1 ≠ 800 := n7
  have m24 : a_m t1 < 24 := by rw [mT]; have := i2.2.2.2.1; rw [mT] at m5; omega
  rw [pb_inr] at h
  obtain ⟨_, a8, h8, h⟩ := h
  have hb := (congrArg Prod.snd (Sum.inr.inj h)).symm
  obtain ⟨nm, x7, h8, hb, i7, c7, k7, q7, hh7, m7, t7, w7, p7⟩ : ∃ nm x7, blk (zKnow nm 36 (zE (zCat (zL a) (a_c a).length (zL x7) (a_m x7) x7) 2 (Int32.ofNat (a_m t1)) 0 36 (-1))) = .inr (_, a8) ∧ b = zX (aK a8 (a_k x7)) (zL a2 + 1) (zL a8) ∧ a_i x7 = a_i t1 ++ [(0, 0, 0, -1, 0, gNow t1)] ∧ a_c x7 = a_c t1 ∧ a_k x7 = a_k t1 ∧ a_q x7 = a_q t1 ∧ a_h x7 = a_h t1 ∧ a_m x7 = a_m t1 ∧ a_t x7 = (a_t t1).drop 0 ∧ wN x7 = wN t1 ∧ a_p x7 = a_p t1 + 1 + 1 + 1 + 1 :=
    ⟨_, _, h8, hb, rfl, rfl, rfl, rfl, rfl, rfl, rfl, rfl, rfl⟩
  clear h h7 h5 h4 h3
  have t7 : a_t x7 = [] := by rw [t7, tT]; rfl
  have g7 : gNow x7 = gNow a := gNow_t (gNow_e (k7.trans kT) (q7.trans qT) (hh7.trans hT1)) (t7.trans hat.symm)
  have z7 : zL x7 = (a_i t1).length + 1 := by unfold zL; rw [i7, List.length_append]; rfl
  rw [z7, m7] at h8
  have hlt : ∀ x ∈ a_k a, x.2.2 < a_m t1 := fun x hx => by rw [mT]; exact i2.2.2.2.2.1 x (by rw [kk2]; exact hx)
  have iK : a_i (zKnow nm 36 (zE (zCat (zL a) (a_c a).length ((a_i t1).length + 1) (a_m t1) x7) 2 (Int32.ofNat (a_m t1)) 0 36 (-1))) = (a_i t1 ++ [(0, 0, 0, -1, 0, gNow t1)]).modify (zL a) (fun e => (e.1, Int32.ofNat (a_m t1), (a_i t1).length + 1, e.2.2.2)) ++ [(2, Int32.ofNat (a_m t1), 0, -1, 36, gNow x7)] := by rw [← i7]; rfl
  have cK : a_c (zKnow nm 36 (zE (zCat (zL a) (a_c a).length ((a_i t1).length + 1) (a_m t1) x7) 2 (Int32.ofNat (a_m t1)) 0 36 (-1))) = (a_c t1).set (a_c a).length ((a_i t1).length + 1) := by rw [← c7]; rfl
  have kK : a_k (zKnow nm 36 (zE (zCat (zL a) (a_c a).length ((a_i t1).length + 1) (a_m t1) x7) 2 (Int32.ofNat (a_m t1)) 0 36 (-1))) = a_k a ++ [(nm, 36, a_m t1)] := by rw [← m7, ← kT, ← k7]; rfl
  have qK : a_q (zKnow nm 36 (zE (zCat (zL a) (a_c a).length ((a_i t1).length + 1) (a_m t1) x7) 2 (Int32.ofNat (a_m t1)) 0 36 (-1))) = a_q a := by rw [← qT, ← q7]; rfl
  have hK : a_h (zKnow nm 36 (zE (zCat (zL a) (a_c a).length ((a_i t1).length + 1) (a_m t1) x7) 2 (Int32.ofNat (a_m t1)) 0 36 (-1))) = a_h a := by rw [← hT1, ← hh7]; rfl
  have tK : a_t (zKnow nm 36 (zE (zCat (zL a) (a_c a).length ((a_i t1).length + 1) (a_m t1) x7) 2 (Int32.ofNat (a_m t1)) 0 36 (-1))) = [] := by show (a_t x7).drop 0 = []; rw [t7]; rfl
  have pK : a_p (zKnow nm 36 (zE (zCat (zL a) (a_c a).length ((a_i t1).length + 1) (a_m t1) x7) 2 (Int32.ofNat (a_m t1)) 0 36 (-1))) ≤ 800 := by show a_p x7 ≤ 800; rw [p7]; rw [pT] at n3 n4 n5 n7 ⊢; omega
  have KB7 : KB tyOk x7 := by unfold KB; rw [k7, kT, m7, mT, ← kk2]; exact i2.2.2
  have inK : In0 tyOk (zKnow nm 36 (zE (zCat (zL a) (a_c a).length ((a_i t1).length + 1) (a_m t1) x7) 2 (Int32.ofNat (a_m t1)) 0 36 (-1))) := by
    refine ⟨?_, rfl, KB_know (a := zE (zCat (zL a) (a_c a).length ((a_i t1).length + 1) (a_m t1) x7) 2 (Int32.ofNat (a_m t1)) 0 36 (-1)) KB7 (by show a_m x7 ≠ 24; rw [m7]; exact m5) (Or.inl rfl)⟩
    show wN x7 = 0
    rw [w7]; exact wnT
  generalize zKnow nm 36 (zE (zCat (zL a) (a_c a).length ((a_i t1).length + 1) (a_m t1) x7) 2 (Int32.ofNat (a_m t1)) 0 36 (-1)) = K1 at *
  have gK : gNow K1 = ([], (gNow a).2.1 ++ [(a_m t1, 36)], (gNow a).2.2.1, a_h a) := by
    unfold gNow; rw [tK, kK, qK, hK, List.map_append]; rfl
  have fK : ∀ x ∈ (gNow a).2.1 ++ [(a_m t1, (36 : Int32))], x ∈ gSet (a_m t1) 36 (gNow a).2.1 := by
    intro x hx
    refine gSet_m ?_
    rcases List.mem_append.mp hx with z | z
    · refine Or.inr ⟨?_, z⟩
      obtain ⟨e, he, rfl⟩ := List.mem_map.mp z
      have := hlt e he
      show e.2.2 ≠ a_m t1
      omega
    · exact Or.inl (List.mem_singleton.mp z)
  have it0 : (a_i t1)[zL a]? = some (33, 0, 0, -1, 0, gNow a) := by rw [iT]; exact get_app it2
  have pj : (a_c a).length = pos vT (a_i t1) (zL a) := by rw [iT, pos_app (by show zL a ≤ zL a2; omega)]; exact pos2.symm
  have preT : a_i a <+: a_i t1 := by rw [iT]; exact pre2.trans (List.prefix_append _ _)
  have preK : a_i a <+: a_i K1 := by
    rw [iK]
    have h1 : Pre a x7 := by
      show a_i a <+: a_i x7
      rw [i7]; exact preT.trans (List.prefix_append _ _)
    have h2 : a_i a <+: (a_i x7).modify (zL a) (fun e => (e.1, Int32.ofNat (a_m t1), (a_i t1).length + 1, e.2.2.2)) := Pre_mod (a := a) (b := x7) (c := aI x7 ((a_i x7).modify (zL a) (fun e => (e.1, Int32.ofNat (a_m t1), (a_i t1).length + 1, e.2.2.2)))) h1 (Nat.le_refl _) rfl
    rw [i7] at h2
    exact h2.trans (List.prefix_append _ _)
  have itJ : (a_i K1)[(a_i t1).length]? = some (0, 0, 0, -1, 0, gNow t1) := by
    rw [iK]
    refine get_app ?_
    have := get_mod (k := zL a) (f := fun e => (e.1, Int32.ofNat (a_m t1), (a_i t1).length + 1, e.2.2.2)) (get_end (l := a_i t1) (e := (0, 0, 0, -1, 0, gNow t1)))
    rw [if_neg (by have := (List.getElem?_eq_some_iff.mp it0).1; omega)] at this
    exact this
  have CK : CTL K1 := by
    unfold CTL zL
    rw [cK, List.length_set, iK, pos_L, List.length_modify, pos_mod (f := fun e : zI => (e.1, Int32.ofNat (a_m t1), (a_i t1).length + 1, e.2.2.2)) (fun _ => rfl), pos_L]
    exact CT
  have sK : HSt K1 := by
    refine ⟨QB_k ⟨by rw [qK]; exact hq.1, by rw [qK]; exact hq.2.1⟩ inK, tK, ?_, CK, inK, pK⟩
    unfold KW
    rw [kK]
    refine List.pairwise_append.mpr ⟨hk, List.pairwise_singleton _ _, fun x hx y hy => ?_⟩
    rw [List.mem_singleton.mp hy]
    exact hlt x hx
  obtain ⟨d8, i8, k8⟩ := hD K1 _ a8 pK inK h8
  have s8 := hB K1 _ a8 sK h8
  have it8 := get_pr d8.2.2.2.1 itJ
  have gU : gNow (aK a8 (a_k x7)) = gNow a := by
    refine gNow_t (gNow_e ?_ ?_ ?_) ?_
    · show a_k x7 = a_k a
      rw [k7, kT]
    · show a_q a8 = a_q a
      rw [d8.2.2.2.2.2.2.1, qK]
    · show a_h a8 = a_h a
      rw [d8.2.2.2.2.2.2.2.2.1, hK]
    · show a_t a8 = a_t a
      rw [s8.2.1, hat]
  have g8 : gFits (gNow a8) (gNow (aK a8 (a_k x7))) := by
    refine ⟨rfl, fun x hx => ?_, rfl, rfl⟩
    show x ∈ (a_k a8).map _
    rw [k8, kK, List.map_append]
    refine List.mem_append_left _ ?_
    rw [gU] at hx; exact hx
  have zlen : zL a2 + 1 = (a_i t1).length := zT.symm
  have zU : zL (aK a8 (a_k x7)) = zL a8 := rfl
  rw [zlen] at hb
  subst hb
  refine ⟨fun P hP w => ?_, s8.2.1, ?_, CTL_X (a := aK a8 (a_k x7)) s8.2.2.2⟩
  · obtain ⟨w1, m1⟩ := wS P w
    obtain ⟨w2, m2⟩ := s2.1 _ (fun k hk => (List.mem_cons.mp hk).elim (fun z => by omega) (fun z => by have := hP k z; omega)) w1
    have hh : hOk (a_i a2) ([], (gNow a2).2.1, (gNow a2).2.2.1, a_h a) := hOk_w (g := gNow a) (hOk_pre w.2.1 pre2) (fun x hx => by show x ∈ (gNow a2).2.1; rw [gg2.1]; exact hx) gg2.2 rfl
    obtain ⟨w3, m3⟩ := wT _ hh w2
    obtain ⟨r1, r2⟩ := W_catch (P := P) (gC := gNow x7) (gK := gNow K1) (slot := a_m t1) w3.1 w3.2.1 w3.2.2 tT it0 pj (by rw [cT]; exact cc2) m24 (by rw [g7]; exact gFits.refl _) t7 (by rw [g7]; exact hOk_pre w.2.1 preT) (by rw [g7]; exact w.2.2) (by
      rw [gK, g7]
      exact ⟨hat.symm, fK, rfl, rfl⟩)
    rw [← iK, ← cK] at r1
    have wK : WTa ((a_i t1).length :: P) K1 := by
      refine ⟨by rw [qK, ← qT]; exact r1, ?_, ?_⟩
      · rw [gK]
        exact hOk_w (g := gNow a) (hOk_pre w.2.1 preK) (fun x hx => List.mem_append_left _ hx) rfl rfl
      · rw [gK]
        intro x hx
        rcases List.mem_append.mp hx with z | z
        · exact w.2.2 x z
        · rw [List.mem_singleton.mp z]; exact m24
    have mK : LM t1 K1 := fun j g z => by rw [iK]; exact r2 j g z
    have hlK : zL a2 + 1 < zL K1 := by
      have := (List.getElem?_eq_some_iff.mp itJ).1
      rw [← zlen] at this; exact this
    obtain ⟨w8, m8⟩ := s8.1 _ (fun k hk => (List.mem_cons.mp hk).elim (fun z => by rw [z, ← zlen]; exact hlK) (fun z => by have := hP k z; omega)) wK
    have wU : WTa ((a_i t1).length :: P) (aK a8 (a_k x7)) := ⟨WT_ext w8.1 (Ext_w g8), by rw [gU]; exact hOk_pre w.2.1 (preK.trans d8.2.2.2.1), by rw [gU]; exact w.2.2⟩
    have mU : LM a8 (aK a8 (a_k x7)) := (Ext_w (P := []) (l := a_i a8) (ps := []) (ct := []) g8).1
    obtain ⟨w9, m9⟩ := WTa_aimE wU it8 (Or.inl ⟨rfl, tT⟩) (by
      show gFits ([], (gNow t1).2) (gNow (aK a8 (a_k x7)))
      rw [gU, gT]
      exact ⟨hat, fun _ h => h, rfl, rfl⟩)
    exact ⟨w9, m1.trans (m2.trans (m3.trans (mK.trans (m8.trans (mU.trans m9)))))⟩
  · show (a_k x7).Pairwise _
    rw [k7, kT]; exact hk
end
