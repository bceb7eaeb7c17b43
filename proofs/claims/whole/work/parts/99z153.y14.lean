section
/-! A STEP KEEPS WHAT HOLDS: the items that act, from 17 on -/
variable {W W' : zW} {arg pl ty : Int32} {ops : List Int32} {x : zTx} {r : List zFr} {fu q0 q pc tgt : Nat} {nm : Nat → Int32} {g : zG}
theorem fOwn_lt : ∀ f, f < 9 → fOwn (Int32.ofNat f) < 18 := by decide
theorem s_17 (h : MC x W q0 (q, pc, nm, ops) r (17, arg, tgt, pl, ty, g)) : MOk x W q0 (actM x W (q, pc, nm, ops) r fu (17, arg, tgt, pl, ty, g)) := by
  obtain ⟨⟨t, S, t1, ⟨f, t2, t3⟩, t4, t5⟩, s, hW⟩ := MC_t h
  have t1 : g.1 = t :: S := t1
  have t3 : arg = Int32.ofNat f := t3
  have t5 : ty = if arg = 1 then 0 else 36 := t5
  have t4 : cFit t (fOwn arg) = 1 := t4
  have s : VTs W g.1 ops := s
  rw [t1] at s
  obtain ⟨c0, r1, rfl, v0, s1⟩ := VTs_tail s
  show MOk x W q0 (if c0 = 0 then raiseM x.1 W _ fu _ 1 1 else goM W _ r fu (vFld (vehAt W (ixV c0)) arg.toNatClampNeg :: r1))
  by_cases hc : c0 = 0
  · rw [if_pos hc]; exact raise_M (n := 1) h (by decide) (by decide) rfl
  · rw [if_neg hc]
    have v1 := VT_fit v0 t4
    rw [t3] at v1
    obtain ⟨n, k, n1, n2, n3, n4, n5⟩ := VT_v v1 (fOwn_lt f t2) hc
    have a1 := hW.1.1
    refine go_1 h ⟨rfl, rfl, rfl, by decide⟩ t1 ?_
    rw [n2, ixV_rf (by omega), t3, i_tn (by omega), t5, t3]
    by_cases z : f = 1
    · subst z
      exact (hW.2.1 n n1).2
    · rw [if_neg (by rw [show (1 : Int32) = Int32.ofNat 1 from rfl, i_eq (by omega) (by omega)]; exact z)]
      exact VT_i
theorem s_18 (h : MC x W q0 (q, pc, nm, ops) r (18, arg, tgt, pl, ty, g)) : MOk x W q0 (actM x W (q, pc, nm, ops) r fu (18, arg, tgt, pl, ty, g)) := by
  obtain ⟨⟨u, t, S, t1, ⟨f, t2, t3⟩, t6, t4, t5⟩, s, hW⟩ := MC_t h
  have t1 : g.1 = u :: t :: S := t1
  have t3 : arg = Int32.ofNat f := t3
  have t5 : cFit u (if arg = 1 then 0 else 36) = 1 := t5
  have t4 : cFit t (fOwn arg) = 1 := t4
  have s : VTs W g.1 ops := s
  rw [t1] at s
  obtain ⟨c0, r1, rfl, v0, s1⟩ := VTs_tail s
  obtain ⟨c1, r2, rfl, v1, s2⟩ := VTs_tail s1
  show MOk x W q0 (if c1 = 0 then raiseM x.1 W _ fu _ 1 1 else goM (setV W (ixV c1) arg.toNatClampNeg c0) _ r fu r2)
  by_cases hc : c1 = 0
  · rw [if_pos hc]; exact raise_M (n := 1) h (by decide) (by decide) rfl
  · rw [if_neg hc]
    have w1 := VT_fit v1 t4
    rw [t3] at w1
    obtain ⟨n, k, n1, n2, n3, n4, n5⟩ := VT_v w1 (fOwn_lt f t2) hc
    have a1 := hW.1.1
    have e2 : ixV c1 = n := by rw [n2, ixV_rf (by omega)]
    rw [e2, t3, i_tn (by omega)]
    have hw : WW (setV W n f c0) := by
      refine WW_setV hW (fun z => ?_) (fun z => ?_)
      · subst z
        have w0 := VT_fit v0 t5
        rw [t3] at w0
        exact w0
      · subst z
        rw [n4]; exact n5
    refine go_M h hw rfl (by simp) WLe_setV ?_
    show VTs _ (g.1.drop 2) _
    rw [t1]
    exact VTs_le WLe_setV s2
theorem s_19 (h : MC x W q0 (q, pc, nm, ops) r (19, arg, tgt, pl, ty, g)) : MOk x W q0 (actM x W (q, pc, nm, ops) r fu (19, arg, tgt, pl, ty, g)) := by
  obtain ⟨⟨t, S, t1, t2, t3⟩, s, hW⟩ := MC_t h
  show MOk x W q0 (if opn (q, pc, nm, ops) 0 = 0 then raiseM x.1 W _ fu _ 1 1 else goM W _ r fu (_ :: ops.drop 1))
  by_cases hc : opn (q, pc, nm, ops) 0 = 0
  · rw [if_pos hc]; exact raise_M (n := 1) h (by decide) (by decide) rfl
  · rw [if_neg hc]
    exact go_1 h ⟨rfl, rfl, rfl, by decide⟩ t1 (Or.inl t3)
theorem s_20 (h : MC x W q0 (q, pc, nm, ops) r (20, arg, tgt, pl, ty, g)) : MOk x W q0 (actM x W (q, pc, nm, ops) r fu (20, arg, tgt, pl, ty, g)) := by
  obtain ⟨⟨n, t1, t2, t3⟩, s, hW⟩ := MC_t h
  have t2 : arg = Int32.ofNat n := t2
  have t3 : ty = arg := t3
  show MOk x W q0 (if (w_v W).length < 300 then goM (wV W (w_v W ++ [((arg, fun _ => (0 : Int32)) : zVh)])) _ r fu (rfV (w_v W).length :: ops) else endM 8 _ W fu 0)
  by_cases hc : (w_v W).length < 300
  · rw [if_pos hc, t2]
    have hw := WW_newV hW hc t1
    refine go_M h hw rfl (by simp) WLe_newV ?_
    show VTs _ (ty :: g.1) _
    refine VTs_cons (VTs_le WLe_newV s) ?_
    rw [t3, t2]
    refine VT_mkv (k := n) ?_ t1 ?_ (bel_refl n (by omega))
    · show _ < (w_v W ++ [_]).length
      simp
    · rw [vehAt_new, if_neg (by omega), if_pos rfl]
  · rw [if_neg hc]; exact end_M (n := 8) h (by decide) (by decide) rfl
theorem s_21 (h : MC x W q0 (q, pc, nm, ops) r (21, arg, tgt, pl, ty, g)) : MOk x W q0 (actM x W (q, pc, nm, ops) r fu (21, arg, tgt, pl, ty, g)) := by
  obtain ⟨⟨S, n, t1, t2, t3, t4⟩, s, hW⟩ := MC_t h
  have t1 : g.1 = 36 :: S := t1
  have t3 : arg = Int32.ofNat n := t3
  have t4 : ty = 18 + arg := t4
  have s : VTs W g.1 ops := s
  rw [t1] at s
  obtain ⟨c0, r1, rfl, v0, s1⟩ := VTs_tail s
  show MOk x W q0 (if roomR W c0 then (if c0 < 0 then raiseM x.1 W _ fu _ 3 3 else goM (wR W (w_r W ++ [((arg, List.replicate c0.toNatClampNeg 0) : zRw)])) _ r fu (rfR (w_r W).length :: r1)) else endM 8 _ W fu 0)
  by_cases hr : roomR W c0
  · rw [if_pos hr]
    by_cases hc : c0 < 0
    · rw [if_pos hc]; exact raise_M (n := 3) h (by decide) (by decide) rfl
    · rw [if_neg hc, t3]
      obtain ⟨h1, h2, h3⟩ := hr
      obtain ⟨m, hm, rfl⟩ : ∃ m, m < 41 ∧ c0 = Int32.ofNat m := i32_nat (n := 41) (by decide) hc (by
        rw [Int32.lt_iff_toInt_lt] at h2 ⊢
        rw [show (40 : Int32).toInt = 40 from rfl] at h2
        rw [show (Int32.ofNat 41).toInt = 41 from rfl]
        omega)
      rw [i_tn (by omega)]
      rw [Int32.toInt_ofNat_of_lt (by omega)] at h3
      have hw := WW_newR hW h1 t2 (show m ≤ 40 by omega) (by omega)
      refine go_M h hw rfl (by simp) WLe_newR ?_
      show VTs _ (ty :: g.1.drop 1) _
      rw [t1]
      refine VTs_cons (VTs_le WLe_newR s1) ?_
      rw [t4, t3, o18]
      refine VT_mkr (k := n) ?_ t2 ?_ (bel_refl (18 + n) (by omega))
      · show _ < (w_r W ++ [_]).length
        simp
      · rw [rowAt_new, if_neg (by omega), if_pos rfl]
  · rw [if_neg hr]; exact end_M (n := 8) h (by decide) (by decide) rfl
end
