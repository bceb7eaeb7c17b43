section
/-! A STEP KEEPS WHAT HOLDS: the items that act, from 22 on -/
variable {W W' : zW} {arg pl ty c : Int32} {ops : List Int32} {x : zTx} {r : List zFr} {fu q0 q pc tgt : Nat} {nm : Nat → Int32} {g : zG}
theorem say_ok (h : WW W) : WW (sayM W c) ∧ WLe W (sayM W c) := by
  unfold sayM
  by_cases z : (w_d W).length = 300
  · rw [if_pos z]; exact ⟨h, WLe.refl W⟩
  · rw [if_neg z]
    refine ⟨WW_o (W' := wD W (w_d W ++ [c])) h rfl rfl rfl (fun k hk => (h.2.2.2.1 k hk).2) h.2.2.2.2 h.1.2.2.2.1 h.1.2.2.2.2.1 ?_, WLe_o rfl rfl⟩
    have := h.1.2.2.2.2.2
    show (w_d W ++ [c]).length ≤ 300
    rw [List.length_append]
    show _ + 1 ≤ 300
    omega
theorem go_0 {op : Nat} {v t : Int32} {S : List Int32} (h : MC x W q0 (q, pc, nm, ops) r (op, arg, tgt, pl, ty, g)) (hop : zPops x.2.2 op arg = 1 ∧ zPush op = false ∧ falls op = true ∧ op ≠ 6 ∧ op ≠ 2 ∧ op ≠ 33 ∧ op ≠ 34) (hg : g.1 = t :: S) (hW : WW W') (hle : WLe W W') : MOk x W q0 (goM W' (q, pc, nm, ops) r fu (ops.drop 1)) := by
  obtain ⟨-, s, -⟩ := MC_t h
  have s : VTs W g.1 ops := s
  rw [hg] at s
  obtain ⟨c0, r1, rfl, -, s1⟩ := VTs_tail s
  refine go_M h hW hop.2.2.1 hop.2.2.2 hle ?_
  show VTs W' (effS x.2.2 op arg ty g.1) _
  unfold effS
  rw [hop.1, hop.2.1, hg]
  exact VTs_le hle s1
theorem s_22 (h : MC x W q0 (q, pc, nm, ops) r (22, arg, tgt, pl, ty, g)) : MOk x W q0 (actM x W (q, pc, nm, ops) r fu (22, arg, tgt, pl, ty, g)) := by
  obtain ⟨⟨S, t1⟩, s, hW⟩ := MC_t h
  exact go_0 (v := 0) h ⟨rfl, rfl, rfl, by decide⟩ t1 (say_ok hW).1 (say_ok hW).2
theorem s_23 (h : MC x W q0 (q, pc, nm, ops) r (23, arg, tgt, pl, ty, g)) : MOk x W q0 (actM x W (q, pc, nm, ops) r fu (23, arg, tgt, pl, ty, g)) := by
  obtain ⟨⟨t, S, t1, -⟩, s, hW⟩ := MC_t h
  exact go_0 (v := 0) h ⟨rfl, rfl, rfl, by decide⟩ t1 (say_ok hW).1 (say_ok hW).2
theorem s_24 (h : MC x W q0 (q, pc, nm, ops) r (24, arg, tgt, pl, ty, g)) : MOk x W q0 (actM x W (q, pc, nm, ops) r fu (24, arg, tgt, pl, ty, g)) := by
  obtain ⟨t, s, hW⟩ := MC_t h
  rcases t with ⟨t1, t2, t, S, t3, t4⟩ | ⟨t1, t2⟩
  · have t1 : arg = 1 := t1
    have t3 : g.1 = t :: S := t3
    have s : VTs W g.1 ops := s
    rw [t3] at s
    obtain ⟨c0, r1, rfl, v0, s1⟩ := VTs_tail s
    show MOk x W q0 (leaveM W r fu (if arg = 1 then c0 else 0))
    rw [if_pos t1]
    exact leave_M h (VT_fit v0 t4)
  · have t1 : arg = 0 := t1
    show MOk x W q0 (leaveM W r fu (if arg = 1 then opn _ 0 else 0))
    rw [t1, if_neg (by decide)]
    exact leave_M h VT_0
theorem s_25 (h : MC x W q0 (q, pc, nm, ops) r (25, arg, tgt, pl, ty, g)) : MOk x W q0 (actM x W (q, pc, nm, ops) r fu (25, arg, tgt, pl, ty, g)) := by
  exact raise_M (n := 6) h (by decide) (by decide) rfl
theorem s_26 (h : MC x W q0 (q, pc, nm, ops) r (26, arg, tgt, pl, ty, g)) : MOk x W q0 (actM x W (q, pc, nm, ops) r fu (26, arg, tgt, pl, ty, g)) := by
  obtain ⟨t1, s, hW⟩ := MC_t h
  have t1 : g.1 = [36] := t1
  have hj := (wt_ok h.1 h.2.2.2.1).2.2.1
  have s : VTs W g.1 ops := s
  have s' := s
  rw [t1] at s'
  obtain ⟨c0, r1, rfl, v0, s1⟩ := VTs_tail s'
  show MOk x W q0 (if c0 = 0 then .inl (W, (q, tgt, nm, r1) :: r, fu) else goM W _ r fu r1)
  by_cases z : c0 = 0
  · rw [if_pos z]
    exact jump_M (f := (q, pc, nm, c0 :: r1)) h hj.1 s1 (fun y hy => hy) rfl
  · rw [if_neg z]
    exact go_0 (v := 0) h ⟨rfl, rfl, rfl, by decide⟩ t1 hW (WLe.refl W)
theorem s_28 (h : MC x W q0 (q, pc, nm, ops) r (28, arg, tgt, pl, ty, g)) : MOk x W q0 (actM x W (q, pc, nm, ops) r fu (28, arg, tgt, pl, ty, g)) := by
  obtain ⟨⟨S, t1, t2⟩, s, hW⟩ := MC_t h
  have t2 : ty = 18 := t2
  refine go_1 h ⟨rfl, rfl, rfl, by decide⟩ t1 ?_
  rw [t2]
  by_cases z : isTr (opn (q, pc, nm, ops) 0)
  · rw [if_pos z]
    obtain ⟨n, n1, n2⟩ := i32_nat (n := 8) (by decide) z.1 z.2
    rw [n2, i_tn (by omega)]
    exact (hW.2.2.2.1 n n1).2
  · rw [if_neg z]; exact VT_0
theorem go_2w {op : Nat} {v t u : Int32} {S : List Int32} (h : MC x W q0 (q, pc, nm, ops) r (op, arg, tgt, pl, ty, g)) (hop : zPops x.2.2 op arg = 2 ∧ zPush op = true ∧ falls op = true ∧ op ≠ 6 ∧ op ≠ 2 ∧ op ≠ 33 ∧ op ≠ 34) (hg : g.1 = u :: t :: S) (hty : ty = 36) (hW : WW W') (hle : WLe W W') : MOk x W q0 (goM W' (q, pc, nm, ops) r fu (v :: ops.drop 2)) := by
  obtain ⟨-, s, -⟩ := MC_t h
  have s : VTs W g.1 ops := s
  rw [hg] at s
  obtain ⟨c0, r1, rfl, -, s1⟩ := VTs_tail s
  obtain ⟨c1, r2, rfl, -, s2⟩ := VTs_tail s1
  refine go_M h hW hop.2.2.1 hop.2.2.2 hle ?_
  show VTs W' (effS x.2.2 op arg ty g.1) _
  unfold effS
  rw [hop.1, hop.2.1, hg, hty]
  exact VTs_cons (VTs_le hle s2) VT_i
theorem s_29 (h : MC x W q0 (q, pc, nm, ops) r (29, arg, tgt, pl, ty, g)) : MOk x W q0 (actM x W (q, pc, nm, ops) r fu (29, arg, tgt, pl, ty, g)) := by
  obtain ⟨⟨u, S, t1, t2, t3⟩, s, hW⟩ := MC_t h
  have t1 : g.1 = u :: 36 :: S := t1
  have s : VTs W g.1 ops := s
  rw [t1] at s
  obtain ⟨c0, r1, rfl, v0, s1⟩ := VTs_tail s
  obtain ⟨c1, r2, rfl, v1, s2⟩ := VTs_tail s1
  show MOk x W q0 (if isTr c1 ∧ (c0 = 0 ∨ mayLay W c1.toNatClampNeg c0) then goM (wTk W (fset (w_t W) c1.toNatClampNeg c0)) _ r fu (1 :: r2) else goM W _ r fu (0 :: r2))
  by_cases z : isTr c1 ∧ (c0 = 0 ∨ mayLay W c1.toNatClampNeg c0)
  · rw [if_pos z]
    refine go_2w h ⟨rfl, rfl, rfl, by decide⟩ t1 t3 (WW_o (W' := wTk W (fset (w_t W) c1.toNatClampNeg c0)) hW rfl rfl rfl (fun k hk => ?_) hW.2.2.2.2 hW.1.2.2.2.1 hW.1.2.2.2.2.1 hW.1.2.2.2.2.2) (WLe_o rfl rfl)
    show VT W 18 (fset (w_t W) c1.toNatClampNeg c0 k)
    unfold fset
    by_cases y : k = c1.toNatClampNeg
    · rw [if_pos y]; exact VT_fit v0 t2
    · rw [if_neg y]; exact (hW.2.2.2.1 k hk).2
  · rw [if_neg z]
    exact go_2w h ⟨rfl, rfl, rfl, by decide⟩ t1 t3 hW (WLe.refl W)
theorem s_30 (h : MC x W q0 (q, pc, nm, ops) r (30, arg, tgt, pl, ty, g)) : MOk x W q0 (actM x W (q, pc, nm, ops) r fu (30, arg, tgt, pl, ty, g)) := by
  obtain ⟨⟨u, t, S, t1, t2, t3, t4⟩, s, hW⟩ := MC_t h
  have t1 : g.1 = u :: t :: S := t1
  have s : VTs W g.1 ops := s
  rw [t1] at s
  obtain ⟨c0, r1, rfl, v0, s1⟩ := VTs_tail s
  obtain ⟨c1, r2, rfl, v1, s2⟩ := VTs_tail s1
  show MOk x W q0 (if c1 = 0 ∨ c0 = 0 then raiseM x.1 W _ fu _ 1 1 else goM (humpW (ixR c1) (ixR c0) (if ixR c1 = ixR c0 then 0 else (rowAt W (ixR c1)).2.length) 0 W).2 _ r fu (Int32.ofNat (humpW (ixR c1) (ixR c0) (if ixR c1 = ixR c0 then 0 else (rowAt W (ixR c1)).2.length) 0 W).1 :: r2))
  by_cases z : c1 = 0 ∨ c0 = 0
  · rw [if_pos z]; exact raise_M (n := 1) h (by decide) (by decide) rfl
  · rw [if_neg z]
    have a2 := hW.1.2.1
    obtain ⟨n0, k0, m1, m2, -⟩ := VT_r (VT_fit v0 t2) (by decide) (by decide) (fun y => z (Or.inr y))
    obtain ⟨n1, k1, m3, m4, -⟩ := VT_r (VT_fit v1 t3) (by decide) (by decide) (fun y => z (Or.inl y))
    have hw := WW_hump (r := ixR c1) (s := ixR c0) (if ixR c1 = ixR c0 then 0 else (rowAt W (ixR c1)).2.length) 0 W hW (by rw [m4, ixR_rf (by omega)]; exact m3) (by rw [m2, ixR_rf (by omega)]; exact m1)
    exact go_2w h ⟨rfl, rfl, rfl, by decide⟩ t1 t4 hw.1 hw.2.1
theorem row_13 : ∀ k, k < 18 → cBel (Int32.ofNat (18 + k)) 18 = 1 → k < 13 := by decide +kernel
theorem send_ok {n : Nat} {k m : Int32} (h : WW W) (hn : n < (w_r W).length) (hk : ∃ k, k < 13 ∧ (rowAt W n).1 = Int32.ofNat k) : WW (sendW W n k m).2 ∧ WLe W (sendW W n k m).2 := by
  unfold sendW
  by_cases z : isTr k ∧ ¬ m < 1 ∧ ¬ 1000 < m ∧ (w_n W).length < 10
  · rw [if_pos z]
    obtain ⟨j, j1, j2⟩ := i32_nat (n := 8) (by decide) z.1.1 z.1.2
    refine ⟨WW_o (W' := wTn W (w_n W ++ [(n, k.toNatClampNeg, m, 0, 0)])) h rfl rfl rfl (fun k hk => (h.2.2.2.1 k hk).2) (fun e he => ?_) ?_ h.1.2.2.2.2.1 h.1.2.2.2.2.2, WLe_o rfl rfl⟩
    · have he : e ∈ w_n W ++ [(n, k.toNatClampNeg, m, 0, 0)] := he
      rcases List.mem_append.mp he with y | y
      · exact h.2.2.2.2 e y
      · rw [List.mem_singleton] at y
        rw [y]
        exact ⟨hn, by show k.toNatClampNeg < 8; rw [j2, i_tn (by omega)]; exact j1, hk⟩
    · show (w_n W ++ [_]).length ≤ 10
      rw [List.length_append]
      exact z.2.2.2
  · rw [if_neg z]; exact ⟨h, WLe.refl W⟩
theorem s_31 (h : MC x W q0 (q, pc, nm, ops) r (31, arg, tgt, pl, ty, g)) : MOk x W q0 (actM x W (q, pc, nm, ops) r fu (31, arg, tgt, pl, ty, g)) := by
  obtain ⟨⟨t, S, t1, t2, t3⟩, s, hW⟩ := MC_t h
  have t1 : g.1 = 36 :: 36 :: t :: S := t1
  have t3 : ty = 36 := t3
  have s : VTs W g.1 ops := s
  rw [t1] at s
  obtain ⟨c0, r1, rfl, v0, s1⟩ := VTs_tail s
  obtain ⟨c1, r2, rfl, v1, s2⟩ := VTs_tail s1
  obtain ⟨c2, r3, rfl, v2, s3⟩ := VTs_tail s2
  show MOk x W q0 (if c2 = 0 then raiseM x.1 W _ fu _ 1 1 else goM (sendW W (ixR c2) c1 c0).2 _ r fu ((sendW W (ixR c2) c1 c0).1 :: r3))
  by_cases z : c2 = 0
  · rw [if_pos z]; exact raise_M (n := 1) h (by decide) (by decide) rfl
  · rw [if_neg z]
    have a2 := hW.1.2.1
    obtain ⟨n0, k0, m1, m2, m3, m4, m5⟩ := VT_r (VT_fit v2 t2) (by decide) (by decide) z
    obtain ⟨w1, w2⟩ := send_ok (n := ixR c2) (k := c1) (m := c0) hW (by rw [m2, ixR_rf (by omega)]; exact m1) ⟨k0, row_13 k0 m3 m5, by rw [m2, ixR_rf (by omega)]; exact m4⟩
    refine go_M h w1 rfl (by simp) w2 ?_
    show VTs _ (ty :: g.1.drop 3) _
    rw [t1, t3]
    exact VTs_cons (VTs_le w2 s3) VT_i
theorem s_32 (h : MC x W q0 (q, pc, nm, ops) r (32, arg, tgt, pl, ty, g)) : MOk x W q0 (actM x W (q, pc, nm, ops) r fu (32, arg, tgt, pl, ty, g)) := by
  obtain ⟨t1, s, hW⟩ := MC_t h
  refine go_M h hW rfl (by simp) (WLe.refl W) (VTs_cons s ?_)
  exact Or.inl t1
end
