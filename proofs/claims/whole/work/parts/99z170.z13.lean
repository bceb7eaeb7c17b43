section
/-! THE CLASS's MACHINE: the loop -/
variable {X : Nat × (Nat → Int32)} {d : Nat} {s σ σ' : sm_S} {W W' : zW} {B : Nat × Nat} {i k m j ci q pc q0 tgt n : Nat} {arg ty pl c nx p : Int32} {x : zTx} {nm : Nat → Int32} {ops S : List Int32} {r F : List zFr} {fu : Nat} {g : zG} {K : List (Nat × Int32)} {e : zI} {f : zFr} {d1 d3 d4 d5 d7 d8 : sm_V}
/-- the loop, i steps done -/
noncomputable abbrev lpC (X : Nat × (Nat → Int32)) (d : Nat) (p : Int32) (i : Nat) (d1 d3 d4 d5 d7 d8 : sm_V) (σ : sm_S) : sm_R := sm_go (sm_ZZ X) sm_PP true (sm_callM X true d) 42 79 [vP (13, 0), d1, vI p, d3, d4, d5, vI (Int32.ofNat i), d7, d8] [] σ
theorem lp_lt (hi : i < 10000000) : Int32.ofNat i < 10000000 := by
  rw [show (10000000 : Int32) = Int32.ofNat 10000000 from rfl, i_lt (by omega) (by omega)]; exact hi
theorem stepM_e (hie : x.1[f.2.1]? = some e) : stepM x W (f :: r) fu = if 4 ≤ e.1 ∧ e.1 < 33 then (match fu with
        | 0 => endM 7 e W 0 0
        | fu' + 1 => actM x W f r fu' e) else freeM W f r fu e := by
  simp only [stepM, hie]
  cases fu <;> rfl
/-- one item of the class's code -/
theorem c_step (hi : i < 10000000) (hfu : fu < 10000) (hm : MC x W q0 f r e) (hv : vC e.1 = true) (h : CG x ci W B (knw x.1 f.2.1) f.2.2.1 f.2.2.2 r (Int32.ofNat (pos vC x.1 f.2.1)) fu σ) : ∃ σ' e7 e8, lpC X (d + 10) p i d1 d3 d4 d5 d7 d8 σ = lpC X (d + 10) p (i + 1) vU vU vU vU e7 e8 σ' ∧ CO x ci B (stepM x W (f :: r) fu) σ' := by
  have hx := hm.1
  have hie := hm.2.2.2.1
  obtain ⟨e1, e2, -⟩ := c_op (X := X) (d := d + 8) h.2.1 hx.2.2.2.1 hie hv
  have e1 : sm_callM X true (d + 10) 19 [vP (10, ci), vI (Int32.ofNat (pos vC x.1 f.2.1))] σ = rI (Int32.ofNat (cOp e.1)) σ := e1
  have e2 : sm_callM X true (d + 10) 20 [vP (10, ci), vI (Int32.ofNat (pos vC x.1 f.2.1))] σ = rI (cArg x.1 e) σ := e2
  have hop : cOp e.1 < 100 := by
    have h36 : e.1 < 36 := by
      have t := (MC_t hm).1
      rcases Nat.lt_or_ge e.1 36 with z | z
      · exact z
      · exfalso
        obtain ⟨op, arg, tgt, pl, ty, g⟩ := e
        obtain ⟨n, rfl⟩ : ∃ n, op = n + 36 := ⟨op - 36, (Nat.sub_add_cancel z).symm⟩
        exact t
    unfold cOp
    cases (e.1 == 35) with
    | true => show 1 < 100; omega
    | false => show e.1 < 100; omega
  have hg1 : CG x ci W B (knw x.1 f.2.1) f.2.2.1 f.2.2.2 r (Int32.ofNat (pos vC x.1 f.2.1 + 1)) fu (sI σ 13 0 10 (Int32.ofNat (pos vC x.1 f.2.1 + 1))) := CG_nx h
  have hst := stepM_e (W := W) (r := r) (fu := fu) hie
  unfold lpC
  rw [q_X3_start_79, if_pos (lp_lt hi), h.2.2.2.2.2.2.2.1, if_pos rfl, h.2.2.1, if_pos rfl, h.2.2.2.2.2.1, e1, bI_r, h.2.2.1, if_pos rfl, h.2.2.2.2.2.1, e2, bI_r, h.2.2.2.2.2.1, i_s, i_s, hst]
  have e11 : (sI σ 13 0 10 (Int32.ofNat (pos vC x.1 f.2.1 + 1))).1 13 0 11 = Int32.ofNat fu := hg1.2.2.2.2.2.2.1
  by_cases z : 4 ≤ e.1 ∧ e.1 < 33
  · have hc : cOp e.1 = e.1 := by
      unfold cOp
      cases hh : (e.1 == 35) with
      | true => rw [beq_iff_eq] at hh; omega
      | false => rfl
    rw [if_pos z, if_neg (by rw [hc, show (4 : Int32) = Int32.ofNat 4 from rfl, i_lt (by omega) (by omega)]; omega), e11]
    cases fu with
    | zero =>
      obtain ⟨σ1, f1, f2⟩ := c_endE (X := X) (d := d + 9) (v := 0) (why := 7) hg1 hie hv (by decide) (by decide)
      have f1 : sm_callM X true (d + 10) 52 [vP (13, 0), vI 7] _ = rV σ1 := f1
      rw [if_neg (by decide), f1, bV_r]
      exact ⟨σ1, _, _, rfl, f2⟩
    | succ fu =>
      have e12 : Int32.ofNat (fu + 1) - 1 = Int32.ofNat fu := i_pred
      have hg2 : CG x ci W B (knw x.1 f.2.1) f.2.2.1 f.2.2.2 r (Int32.ofNat (pos vC x.1 f.2.1 + 1)) fu (sI (sI σ 13 0 10 (Int32.ofNat (pos vC x.1 f.2.1 + 1))) 13 0 11 (Int32.ofNat fu)) := CG_fu hg1
      obtain ⟨σ1, f1, f2⟩ := k_act (X := X) (d := d) hm z.1 z.2 hg2
      rw [if_pos (by rw [show (0 : Int32) = Int32.ofNat 0 from rfl, i_lt (by omega) (by omega)]; omega), e12, f1, bV_r]
      exact ⟨σ1, _, _, rfl, f2⟩
  · rw [if_neg z]
    have hc : Int32.ofNat (cOp e.1) < 4 := by
      have : cOp e.1 < 4 := by
        unfold cOp
        cases hh : (e.1 == 35) with
        | true => show 1 < 4; omega
        | false =>
          show e.1 < 4
          have t := (MC_t hm).1
          obtain ⟨op, arg, tgt, pl, ty, g⟩ := e
          have hv : vC op = true := hv
          have z : ¬ (4 ≤ op ∧ op < 33) := z
          show op < 4
          rcases Nat.lt_or_ge op 4 with y | y
          · exact y
          · exfalso
            obtain ⟨n, rfl⟩ : ∃ n, op = n + 33 := ⟨op - 33, by omega⟩
            match n with
            | 0 => exact absurd hv (by decide)
            | 1 => exact absurd hv (by decide)
            | 2 => exact absurd (show ((35 : Nat) == 35) = false from hh) (by decide)
            | n + 3 => exact t
      rw [show (4 : Int32) = Int32.ofNat 4 from rfl, i_lt (by omega) (by omega)]; exact this
    obtain ⟨σ1, f1, f2⟩ := k_free (X := X) (d := d) hm z hv hg1
    rw [if_pos hc, f1, bV_r]
    exact ⟨σ1, _, _, rfl, f2⟩
theorem knw_at (h : Lands x.1 none j g) : ∀ y ∈ knw x.1 j, y ∈ g.2.1 := by
  obtain ⟨e', l1, l2, l3⟩ := Lands_0 h
  intro y hy
  rw [knw_e l1] at hy
  exact l3.2.1 y hy
theorem c_caught (hi : i < 10000000) (hx : WTx x) (h : Cgt x ci B W F fu σ) : ∃ σ' e7 e8, lpC X (d + 10) p i d1 d3 d4 d5 d7 d8 σ = lpC X (d + 10) p (i + 1) vU vU vU vU e7 e8 σ' ∧ CMn x ci B W F fu σ' := by
  obtain ⟨f, r, j, e, v, K, hF, hj, h33, hg, hK⟩ := h
  obtain ⟨-, hjk⟩ := hx.1 j e hj
  have hjk := hjk (by simp)
  obtain ⟨op, arg, tgt, pl, ty, gh⟩ := e
  have h33 : op = 33 := h33
  subst h33
  obtain ⟨-, e2, k1, k2, k3, k4⟩ := hjk
  have k1 : x.1[tgt]? = some e2 := k1
  have k3 : e2.2.1 = arg := k3
  obtain ⟨⟨-, -, -, tk, fl⟩, -⟩ := hx.1 _ e2 k1
  obtain ⟨op2, arg2, tgt2, pl2, ty2, gh2⟩ := e2
  have k2 : op2 = 2 := k2
  subst k2
  have k3 : arg2 = arg := k3
  subst k3
  obtain ⟨-, sl, s1, s2⟩ := tk
  have s2 : arg2 = Int32.ofNat sl := s2
  have fl := fl rfl
  have fl : Lands x.1 none (tgt + 1) (gh2.1, gSet arg2.toNatClampNeg 36 gh2.2.1, gh2.2.2) := fl
  rw [s2, i_tn (by omega)] at fl
  obtain ⟨e1, e2, -⟩ := c_op (X := X) (d := d + 8) hg.2.1 hx.2.2.2.1 k1 rfl
  have e1 : sm_callM X true (d + 10) 19 [vP (10, ci), vI (Int32.ofNat (pos vC x.1 tgt))] σ = rI 2 σ := e1
  have e2 : sm_callM X true (d + 10) 20 [vP (10, ci), vI (Int32.ofNat (pos vC x.1 tgt))] σ = rI arg2 σ := e2
  have hg0 : CG x ci W B K f.2.2.1 [v] r (Int32.ofNat (pos vC x.1 tgt)) fu σ := hg
  have hg1 : CG x ci W B K f.2.2.1 [v] r (Int32.ofNat (pos vC x.1 tgt + 1)) fu (sI σ 13 0 10 (Int32.ofNat (pos vC x.1 tgt + 1))) := CG_nx hg0
  obtain ⟨σ1, f1, h1⟩ := c_pop (X := X) (d := d + 8) hg1
  obtain ⟨σ2, f2, h2⟩ := c_setName (X := X) (d := d + 7) (c := v) (t := 36) h1 s1
  have f2 : sm_callM X true (d + 9) 49 [vP (13, 0), vI (Int32.ofNat sl), vI v] σ1 = rV σ2 := f2
  have f3 : sm_callM X true (d + 10) 55 [vP (13, 0), vI 2, vI arg2] (sI σ 13 0 10 (Int32.ofNat (pos vC x.1 tgt + 1))) = rV σ2 := by
    rw [f_X3_doFree, q_X3_doFree_0, if_neg (by decide), if_neg (by decide), if_pos rfl, f1, bI_r, s2, f2, bV_r]
  unfold lpC
  rw [q_X3_start_79, if_pos (lp_lt hi), hg.2.2.2.2.2.2.2.1, if_pos rfl, hg.2.2.1, if_pos rfl, hg0.2.2.2.2.2.1, e1, bI_r, hg.2.2.1, if_pos rfl, hg0.2.2.2.2.2.1, e2, bI_r, hg0.2.2.2.2.2.1, i_s, i_s, if_pos (by decide), f3, bV_r]
  refine ⟨σ2, _, _, rfl, (f.1, tgt + 1, fset f.2.2.1 sl v, []), r, ?_, ?_⟩
  · rw [hF]
    show ((f.1, tgt + 1, fset f.2.2.1 arg2.toNatClampNeg v, []) :: r : List zFr) = _
    rw [s2, i_tn (by omega)]
  · show CG x ci W B (knw x.1 (tgt + 1)) (fset f.2.2.1 sl v) [] r (Int32.ofNat (pos vC x.1 (tgt + 1))) fu σ2
    rw [pos_s k1, if_pos (show vC (2, arg2, tgt2, pl2, ty2, gh2).1 = true from rfl)]
    refine CG_k (fun y hy => ?_) h2
    have hy := knw_at fl y hy
    have hy : y ∈ (sl, (36 : Int32)) :: gh2.2.1.filter (fun x => x.1 != sl) := hy
    rcases List.mem_cons.mp hy with z | z
    · rw [z]; exact List.mem_cons_self
    · obtain ⟨z1, z2⟩ := List.mem_filter.mp z
      exact List.mem_cons_of_mem _ (List.mem_filter.mpr ⟨hK y (k4.2.1 y z1), z2⟩)
theorem c_loop (hx : WTx x) : ∀ (n : Nat) (W : zW) (F : List zFr) (fu i : Nat) (σ : sm_S) (d1 d3 d4 d5 d7 d8 : sm_V) (z : Int32 × Int32 × Int32 × zW × Nat), MS x W q0 F → pot x F fu < n → n ≤ 4000000 → i + 2 * n ≤ 9000000 → CMn x ci B W F fu σ → runM x n W F fu = .inr z →
    ∃ σ' i' e1 e3 e4 e5 e7 e8, i' < 10000000 ∧ lpC X (d + 10) p i d1 d3 d4 d5 d7 d8 σ = lpC X (d + 10) p i' e1 e3 e4 e5 e7 e8 σ' ∧ CE x ci B z σ'
  | 0, _, _, _, _, _, _, _, _, _, _, _, _, _, h, _, _, _, _ => by omega
  | n + 1, W, F, fu, i, σ, d1, d3, d4, d5, d7, d8, z, h, hp, hn, hi, hM, hr => by
    have hMS := h
    have k := step_ok (fu := fu) h
    rw [runM] at hr
    have hfu : fu < 10000 := by unfold pot at hp; omega
    obtain ⟨f, r, hF, hg⟩ := hM
    subst hF
    obtain ⟨hx', hW, hFs, hl, hb⟩ := h
    obtain ⟨e, S, h1, h2e, -⟩ := id hFs
    have hm : MC x W q0 f r e := ⟨hx, hW, hFs, h1, hl, hb⟩
    by_cases hv : vC e.1 = true
    · obtain ⟨σ1, e7, e8, f1, f2⟩ := c_step (X := X) (d := d) (p := p) (d1 := d1) (d3 := d3) (d4 := d4) (d5 := d5) (d7 := d7) (d8 := d8) (i := i) (by omega) hfu hm hv hg
      rw [f1]
      cases hs : stepM x W (f :: r) fu with
      | inr z' =>
        rw [hs] at hr f2
        have hz : z' = z := Sum.inr.inj hr
        subst hz
        exact ⟨σ1, i + 1, _, _, _, _, _, _, by omega, rfl, f2⟩
      | inl y =>
        rw [hs] at hr k f2
        have hp' := step_pot hMS hs
        have hMS' : MS x y.1 q0 y.2.1 := ⟨hx, k.2.1, k.2.2.1, k.2.2.2.1, k.2.2.2.2⟩
        rcases f2 with f2 | f2
        · obtain ⟨σ', i', g⟩ := c_loop hx n y.1 y.2.1 y.2.2 (i + 1) σ1 vU vU vU vU e7 e8 z hMS' (by omega) (by omega) (by omega) f2 hr
          exact ⟨σ', i', g⟩
        · obtain ⟨σ2, e7', e8', g1, g2⟩ := c_caught (X := X) (d := d) (p := p) (d1 := vU) (d3 := vU) (d4 := vU) (d5 := vU) (d7 := e7) (d8 := e8) (i := i + 1) (by omega) hx f2
          rw [g1]
          obtain ⟨σ', i', g⟩ := c_loop hx n y.1 y.2.1 y.2.2 (i + 1 + 1) σ2 vU vU vU vU e7' e8' z hMS' (by omega) (by omega) (by omega) g2 hr
          exact ⟨σ', i', g⟩
    · have hop : e.1 = 33 ∨ e.1 = 34 := by
        unfold vC at hv
        have hv : ¬ e.1 = 33 → e.1 = 34 := by simpa using hv
        by_cases q : e.1 = 33
        · exact Or.inl q
        · exact Or.inr (hv q)
      have hs : stepM x W (f :: r) fu = goM W f r fu f.2.2.2 := by
        unfold stepM; dsimp only; rw [h1]; dsimp only
        rw [if_neg (by omega)]
        obtain ⟨op, arg, tgt, pl, ty, g⟩ := e
        rcases hop with q | q
        · have q : op = 33 := q
          subst q; rfl
        · have q : op = 34 := q
          subst q; rfl
      have hp' := step_pot hMS hs
      rw [hs] at hr k
      have hMS' : MS x W q0 ((f.1, f.2.1 + 1, f.2.2.1, f.2.2.2) :: r) := ⟨hx, k.2.1, k.2.2.1, k.2.2.2.1, k.2.2.2.2⟩
      have hfa : falls e.1 = true := by rcases hop with q | q <;> rw [q] <;> rfl
      have hL := (wt_ok hx h1).2.1 hfa
      have hk : ∀ y ∈ knw x.1 (f.2.1 + 1), y ∈ knw x.1 f.2.1 := fun y hy => by
        have := knw_at hL y hy
        rw [knw_e h1]
        obtain ⟨op, arg, tgt, pl, ty, g⟩ := e
        rcases hop with q | q
        · have q : op = 33 := q
          subst q; exact this
        · have q : op = 34 := q
          subst q; exact this
      have hM' : CMn x ci B W ((f.1, f.2.1 + 1, f.2.2.1, f.2.2.2) :: r) fu σ := by
        refine ⟨_, _, rfl, ?_⟩
        show CG x ci W B (knw x.1 (f.2.1 + 1)) f.2.2.1 f.2.2.2 r (Int32.ofNat (pos vC x.1 (f.2.1 + 1))) fu σ
        rw [pos_s h1, if_neg hv]
        exact CG_k hk hg
      exact c_loop hx n W _ fu i σ d1 d3 d4 d5 d7 d8 z hMS' (Nat.lt_of_lt_of_le hp' (by omega)) (by omega) (by omega) hM' hr
end
