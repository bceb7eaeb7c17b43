section
/-! A STEP KEEPS WHAT HOLDS: the items that act -/
variable {W W' : zW} {arg pl ty : Int32} {ops : List Int32} {x : zTx} {r : List zFr} {fu q0 q pc tgt : Nat} {nm : Nat → Int32} {g : zG}
theorem MC_t {e : zI} {f : zFr} (h : MC x W q0 f r e) : tOk x.2.2 e ∧ VTs W (i_g e).1 f.2.2.2 ∧ WW W := ⟨(wt_ok h.1 h.2.2.2.1).1, (cur_ok h.2.2.1 h.2.2.2.1).1, h.2.1⟩
theorem s_4 (h : MC x W q0 (q, pc, nm, ops) r (4, arg, tgt, pl, ty, g)) : MOk x W q0 (actM x W (q, pc, nm, ops) r fu (4, arg, tgt, pl, ty, g)) := by
  obtain ⟨t, s, hW⟩ := MC_t h
  refine go_M h hW rfl (by simp) (WLe.refl W) (VTs_cons s ?_)
  rcases t with t | ⟨-, t⟩
  · exact Or.inl t
  · have t : arg = 0 := t
    show VT W ty arg
    rw [t]; exact VT_0
theorem s_5 (h : MC x W q0 (q, pc, nm, ops) r (5, arg, tgt, pl, ty, g)) : MOk x W q0 (actM x W (q, pc, nm, ops) r fu (5, arg, tgt, pl, ty, g)) := by
  obtain ⟨⟨k, t1, t2⟩, s, hW⟩ := MC_t h
  have t1 : arg = Int32.ofNat k := t1
  have hk := (wt_ok h.1 h.2.2.2.1).2.2.2.2 _ t2
  have hk : k < 24 := hk
  refine go_M h hW rfl (by simp) (WLe.refl W) (VTs_cons s ?_)
  show VT W ty (nm arg.toNatClampNeg)
  rw [t1, i_tn (by omega)]
  exact (cur_ok h.2.2.1 h.2.2.2.1).2.1 _ t2
theorem s_6 (h : MC x W q0 (q, pc, nm, ops) r (6, arg, tgt, pl, ty, g)) : MOk x W q0 (actM x W (q, pc, nm, ops) r fu (6, arg, tgt, pl, ty, g)) := by
  obtain ⟨⟨⟨t, S, t1, t2⟩, k, t3, t4⟩, s, hW⟩ := MC_t h
  obtain ⟨hx, -, hF, hi, hl, hb⟩ := h
  obtain ⟨-, c2, c3, c4⟩ := cur_ok hF hi
  rw [t1] at s
  obtain ⟨c, rest, rfl, v1, v2⟩ := VTs_tail s
  have hL := (wt_ok hx hi).2.1 rfl
  have hL : Lands x.1 none (pc + 1) (g.1.drop 1, gSet arg.toNatClampNeg ty g.2.1, g.2.2) := hL
  refine ⟨WLe.refl W, hW, FsOk_land hL ?_ (fun y hy => ?_) c3 c4, hl, by rw [← hb]; exact botQ_hd rfl⟩
  · show VTs W (g.1.drop 1) rest
    have t1 : g.1 = t :: S := t1
    rw [t1]; exact v2
  · show VT W y.2 (fset nm arg.toNatClampNeg c y.1)
    have hy : y ∈ (arg.toNatClampNeg, ty) :: g.2.1.filter (fun x => x.1 != arg.toNatClampNeg) := hy
    unfold fset
    rcases List.mem_cons.mp hy with z | z
    · rw [z]
      rw [if_pos rfl]
      exact VT_fit v1 t2
    · obtain ⟨z1, z2⟩ := List.mem_filter.mp z
      have z2 : y.1 ≠ arg.toNatClampNeg := by simpa using z2
      rw [if_neg z2]
      exact c2 y z1
theorem go_2 {op : Nat} {v t u : Int32} {S : List Int32} (h : MC x W q0 (q, pc, nm, ops) r (op, arg, tgt, pl, ty, g)) (hop : zPops x.2.2 op arg = 2 ∧ zPush op = true ∧ falls op = true ∧ op ≠ 6 ∧ op ≠ 2 ∧ op ≠ 33 ∧ op ≠ 34) (hg : g.1 = u :: t :: S) (hty : ty = 36) : MOk x W q0 (goM W (q, pc, nm, ops) r fu (v :: ops.drop 2)) := by
  obtain ⟨-, s, hW⟩ := MC_t h
  have s : VTs W g.1 ops := s
  rw [hg] at s
  obtain ⟨c0, r1, rfl, -, s1⟩ := VTs_tail s
  obtain ⟨c1, r2, rfl, -, s2⟩ := VTs_tail s1
  refine go_M h hW hop.2.2.1 hop.2.2.2 (WLe.refl W) ?_
  show VTs W (effS x.2.2 op arg ty g.1) _
  unfold effS
  rw [hop.1, hop.2.1, hg, hty]
  exact VTs_cons s2 VT_i
theorem s_7 (h : MC x W q0 (q, pc, nm, ops) r (7, arg, tgt, pl, ty, g)) : MOk x W q0 (actM x W (q, pc, nm, ops) r fu (7, arg, tgt, pl, ty, g)) := by
  obtain ⟨⟨S, t1, t2⟩, -, -⟩ := MC_t h
  exact go_2 h ⟨rfl, rfl, rfl, by decide⟩ t1 t2
theorem s_8 (h : MC x W q0 (q, pc, nm, ops) r (8, arg, tgt, pl, ty, g)) : MOk x W q0 (actM x W (q, pc, nm, ops) r fu (8, arg, tgt, pl, ty, g)) := by
  obtain ⟨⟨S, t1, t2⟩, -, -⟩ := MC_t h
  exact go_2 h ⟨rfl, rfl, rfl, by decide⟩ t1 t2
theorem s_9 (h : MC x W q0 (q, pc, nm, ops) r (9, arg, tgt, pl, ty, g)) : MOk x W q0 (actM x W (q, pc, nm, ops) r fu (9, arg, tgt, pl, ty, g)) := by
  obtain ⟨⟨S, t1, t2⟩, -, -⟩ := MC_t h
  exact go_2 h ⟨rfl, rfl, rfl, by decide⟩ t1 t2
theorem s_12 (h : MC x W q0 (q, pc, nm, ops) r (12, arg, tgt, pl, ty, g)) : MOk x W q0 (actM x W (q, pc, nm, ops) r fu (12, arg, tgt, pl, ty, g)) := by
  obtain ⟨⟨S, t1, t2⟩, -, -⟩ := MC_t h
  exact go_2 h ⟨rfl, rfl, rfl, by decide⟩ t1 t2
theorem s_10 (h : MC x W q0 (q, pc, nm, ops) r (10, arg, tgt, pl, ty, g)) : MOk x W q0 (actM x W (q, pc, nm, ops) r fu (10, arg, tgt, pl, ty, g)) := by
  obtain ⟨⟨u, t, S, t1, -, t2⟩, -, -⟩ := MC_t h
  exact go_2 h ⟨rfl, rfl, rfl, by decide⟩ t1 t2
theorem s_11 (h : MC x W q0 (q, pc, nm, ops) r (11, arg, tgt, pl, ty, g)) : MOk x W q0 (actM x W (q, pc, nm, ops) r fu (11, arg, tgt, pl, ty, g)) := by
  obtain ⟨⟨u, t, S, t1, -, t2⟩, -, -⟩ := MC_t h
  exact go_2 h ⟨rfl, rfl, rfl, by decide⟩ t1 t2
theorem s_13 (h : MC x W q0 (q, pc, nm, ops) r (13, arg, tgt, pl, ty, g)) : MOk x W q0 (actM x W (q, pc, nm, ops) r fu (13, arg, tgt, pl, ty, g)) := by
  obtain ⟨⟨t, S, t1, t2, t3, t4⟩, s, hW⟩ := MC_t h
  have t1 : g.1 = t :: S := t1
  have t3 : ty = arg := t3
  have s : VTs W g.1 ops := s
  rw [t1] at s
  obtain ⟨c, r1, rfl, v1, s1⟩ := VTs_tail s
  show MOk x W q0 (if c ≠ 0 ∧ ¬ cBel (tyOf W c) arg = 1 then raiseM x.1 W _ fu _ 4 4 else goM W _ r fu (c :: r1))
  by_cases z : c ≠ 0 ∧ ¬ cBel (tyOf W c) arg = 1
  · rw [if_pos z]; exact raise_M (n := 4) h (by decide) (by decide) rfl
  · rw [if_neg z]
    refine go_M h hW rfl (by simp) (WLe.refl W) ?_
    show VTs W (ty :: g.1.drop 1) _
    rw [t1, t3]
    refine VTs_cons s1 ?_
    by_cases hc : c = 0
    · rw [hc]; exact VT_0
    · exact VT_ty hW v1 (cAsk_ref t2) hc (Decidable.byContradiction (fun y => z ⟨hc, y⟩))
theorem go_1 {op : Nat} {v t : Int32} {S : List Int32} (h : MC x W q0 (q, pc, nm, ops) r (op, arg, tgt, pl, ty, g)) (hop : zPops x.2.2 op arg = 1 ∧ zPush op = true ∧ falls op = true ∧ op ≠ 6 ∧ op ≠ 2 ∧ op ≠ 33 ∧ op ≠ 34) (hg : g.1 = t :: S) (hv : VT W ty v) : MOk x W q0 (goM W (q, pc, nm, ops) r fu (v :: ops.drop 1)) := by
  obtain ⟨-, s, hW⟩ := MC_t h
  have s : VTs W g.1 ops := s
  rw [hg] at s
  obtain ⟨c0, r1, rfl, -, s1⟩ := VTs_tail s
  refine go_M h hW hop.2.2.1 hop.2.2.2 (WLe.refl W) ?_
  show VTs W (effS x.2.2 op arg ty g.1) _
  unfold effS
  rw [hop.1, hop.2.1, hg]
  exact VTs_cons s1 hv
theorem s_14 (h : MC x W q0 (q, pc, nm, ops) r (14, arg, tgt, pl, ty, g)) : MOk x W q0 (actM x W (q, pc, nm, ops) r fu (14, arg, tgt, pl, ty, g)) := by
  obtain ⟨⟨t, S, t1, t2, t3, t4⟩, s, hW⟩ := MC_t h
  exact go_1 h ⟨rfl, rfl, rfl, by decide⟩ t1 (Or.inl t3)
theorem s_15 (h : MC x W q0 (q, pc, nm, ops) r (15, arg, tgt, pl, ty, g)) : MOk x W q0 (actM x W (q, pc, nm, ops) r fu (15, arg, tgt, pl, ty, g)) := by
  obtain ⟨⟨t, S, t1, t2, t3⟩, s, hW⟩ := MC_t h
  have t1 : g.1 = 36 :: t :: S := t1
  have t3 : ty = t - 18 := t3
  have s : VTs W g.1 ops := s
  rw [t1] at s
  obtain ⟨c0, r1, rfl, v0, s1⟩ := VTs_tail s
  obtain ⟨c1, r2, rfl, v1, s2⟩ := VTs_tail s1
  show MOk x W q0 (if c1 = 0 then raiseM x.1 W _ fu _ 1 1 else if hasPl W (ixR c1) c0 then goM W _ r fu ((rowAt W (ixR c1)).2.getD c0.toNatClampNeg 0 :: r2) else raiseM x.1 W _ fu _ 2 2)
  by_cases hc : c1 = 0
  · rw [if_pos hc]; exact raise_M (n := 1) h (by decide) (by decide) rfl
  · rw [if_neg hc]
    by_cases hp : hasPl W (ixR c1) c0
    · rw [if_pos hp]
      refine go_M h hW rfl (by simp) (WLe.refl W) ?_
      show VTs W (ty :: g.1.drop 2) _
      rw [t1, t3]
      refine VTs_cons s2 ?_
      obtain ⟨n, k, n1, rfl, n3, n4, n5⟩ := VT_r v1 t2.1 t2.2 hc
      have a2 := hW.1.2.1
      rw [ixR_rf (by omega)]
      obtain ⟨k', k1, k2, -, k4⟩ := hW.2.2.1 n n1
      have hkk : k' = k := by
        rw [n4] at k2
        exact ((i_eq (by omega) (by omega)).mp k2).symm
      subst hkk
      by_cases z : (rowAt W n).2.getD c0.toNatClampNeg 0 = 0
      · rw [z]; exact VT_0
      · exact cOk_VT k1 (k4 _ (getD_mem z)) n5
    · rw [if_neg hp]; exact raise_M (n := 2) h (by decide) (by decide) rfl
theorem s_16 (h : MC x W q0 (q, pc, nm, ops) r (16, arg, tgt, pl, ty, g)) : MOk x W q0 (actM x W (q, pc, nm, ops) r fu (16, arg, tgt, pl, ty, g)) := by
  obtain ⟨⟨u, t, S, t1, t2, t3⟩, s, hW⟩ := MC_t h
  have t1 : g.1 = u :: 36 :: t :: S := t1
  have s : VTs W g.1 ops := s
  rw [t1] at s
  obtain ⟨c0, r1, rfl, v0, s1⟩ := VTs_tail s
  obtain ⟨c1, r2, rfl, v1, s2⟩ := VTs_tail s1
  obtain ⟨c2, r3, rfl, v2, s3⟩ := VTs_tail s2
  show MOk x W q0 (if c2 = 0 then raiseM x.1 W _ fu _ 1 1 else if hasPl W (ixR c2) c1 then (if fitsR W (ixR c2) c0 then goM (setR W (ixR c2) c1.toNatClampNeg c0) _ r fu r3 else raiseM x.1 W _ fu _ 5 5) else raiseM x.1 W _ fu _ 2 2)
  by_cases hc : c2 = 0
  · rw [if_pos hc]; exact raise_M (n := 1) h (by decide) (by decide) rfl
  · rw [if_neg hc]
    by_cases hp : hasPl W (ixR c2) c1
    · rw [if_pos hp]
      by_cases hf : fitsR W (ixR c2) c0
      · rw [if_pos hf]
        obtain ⟨n, k, n1, n2, n3, n4, n5⟩ := VT_r v2 t2.1 t2.2 hc
        have a2 := hW.1.2.1
        have e2 : ixR c2 = n := by rw [n2, ixR_rf (by omega)]
        rw [e2] at hf ⊢
        obtain ⟨b, hb, ht⟩ : ∃ b, b < 18 ∧ t - 18 = Int32.ofNat b := by
          obtain ⟨b, hb, rfl⟩ := (bel_rng n5).2
          have : 18 ≤ b := by
            rcases Nat.lt_or_ge b 18 with z | z
            · exact absurd ((lt18 hb).mpr z) t2.1
            · exact z
          obtain ⟨b', rfl⟩ : ∃ b', b = 18 + b' := ⟨b - 18, by omega⟩
          exact ⟨b', by omega, i_sub (p := 18)⟩
        obtain ⟨k', k1, k2, k3⟩ := VT_cOk hW (VT_fit v0 t3) (by rw [ht]; exact (lt18 (by omega)).mpr hb) n1 hf
        refine go_M h (WW_setR hW k2 k1 k3) rfl (by simp) WLe_setR ?_
        show VTs _ (g.1.drop 3) _
        rw [t1]
        exact VTs_le WLe_setR s3
      · rw [if_neg hf]; exact raise_M (n := 5) h (by decide) (by decide) rfl
    · rw [if_neg hp]; exact raise_M (n := 2) h (by decide) (by decide) rfl
end
