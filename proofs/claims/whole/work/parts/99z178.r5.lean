section
/-! THE REFERENCE's MACHINE: where a step comes to; faults -/
variable {X : Nat × (Nat → Int32)} {d : Nat} {s σ σ' : sm_S} {W W' : zW} {n i k m j mi b q pc q0 : Nat} {c t u y nx v why own : Int32} {x : zTx} {K K' : List (Nat × Int32)} {nm : Nat → Int32} {S ops L : List Int32} {H : List Nat} {r F : List zFr} {fu : Nat} {l : List zI} {e : zI} {f : zFr}
def MMn (x : zTx) (mi : Nat) (W : zW) (F : List zFr) (fu : Nat) (σ : sm_S) : Prop := ∃ (f : zFr) (r : List zFr) (e : zI), F = f :: r ∧ x.1[f.2.1]? = some e ∧ MG x mi W (i_g e).2.1 f.2.2.1 (mOps (i_g e).1 f.2.2.2) (i_h e) f.1 r (Int32.ofNat (pos vM x.1 f.2.1)) fu σ
/-- what the reference has at the end -/
def ME (x : zTx) (mi q0 : Nat) (z : Int32 × Int32 × Int32 × zW × Nat) (σ : sm_S) : Prop := MW z.2.2.2.1 σ ∧ MTx x mi σ ∧ σ.2.2.1 23 0 6 = (22, mi) ∧ σ.1 23 0 57 = 1 ∧ σ.1 23 0 50 = z.1 ∧ σ.1 23 0 49 = Int32.ofNat z.2.2.2.2 ∧ σ.1 23 0 52 = (if z.1 = 6 then z.2.1 else 0) ∧ σ.1 23 0 53 = z.2.2.1 ∧ ∀ p, x.2.2[q0]? = some p → σ.1 23 0 51 = (if z.1 = 0 then mV p.2.1 z.2.1 else 0)
def MO (x : zTx) (mi q0 : Nat) (z : zMR) (σ : sm_S) : Prop := match z with
  | .inl y => MMn x mi y.1 y.2.1 y.2.2 σ
  | .inr z => ME x mi q0 z σ
theorem MO_go (hm : MC x W q0 f r e) (hv : vM e.1 = true) (hf : falls e.1 = true) (ho : e.1 ≠ 6 ∧ e.1 ≠ 2 ∧ e.1 ≠ 33 ∧ e.1 ≠ 34) (hL : L = mOps (effS x.2.2 e.1 e.2.1 e.2.2.2.2.1 (i_g e).1) ops) (h : MG x mi W' (i_g e).2.1 f.2.2.1 L (i_h e) f.1 r (Int32.ofNat (pos vM x.1 f.2.1 + 1)) fu σ) : MO x mi q0 (goM W' f r fu ops) σ := by
  obtain ⟨hx, -, hF, hi, -, -⟩ := hm
  obtain ⟨e', l1, l2, l3⟩ := Lands_0 ((wt_ok hx hi).2.1 hf)
  obtain ⟨op, arg, tgt, pl, ty, g⟩ := e
  rw [gNx_d ho] at l3
  obtain ⟨g1, g2, g3, g4⟩ := l3
  refine ⟨(f.1, f.2.1 + 1, f.2.2.1, ops), r, e', rfl, l1, ?_⟩
  show MG x mi W' (i_g e').2.1 f.2.2.1 (mOps (i_g e').1 ops) (i_h e') f.1 r (Int32.ofNat (pos vM x.1 (f.2.1 + 1))) fu σ
  have g1 : (i_g e').1 = effS x.2.2 op arg ty g.1 := g1
  have g4 : i_h e' = g.2.2.2 := g4
  have hL : L = mOps (effS x.2.2 op arg ty g.1) ops := hL
  rw [pos_s hi, if_pos (show vM (op, arg, tgt, pl, ty, g).1 = true from hv), g1, g4, ← hL]
  exact MG_k (fun y hy => g2 y hy) h
theorem trR_len (hx : WTx x) : ∀ (F : List zFr), (trR x.1 F).length ≤ 8 * F.length
  | [] => Nat.zero_le _
  | f :: r => by
    have := trR_len hx r
    rw [trR, List.length_append, List.length_cons]
    have h8 : (trF x.1 (gOf x.1 f.2.1).2.2.2 r).length ≤ 8 := by
      unfold trF
      rw [List.length_map]
      unfold gOf
      cases he : x.1[f.2.1]? with
      | none => exact Nat.zero_le _
      | some e => exact hx.2.2.2.2.2.2.1 e (List.mem_of_getElem? he)
    omega
theorem ops_ok (hx : WTx x) {o : Option Int32} (h : FsOk x W o (f :: r)) : f.2.2.2.length ≤ 80 := by
  obtain ⟨e, S, e1, e2, e3, e4, -⟩ := h
  obtain ⟨⟨b1, -⟩, -⟩ := hx.1 _ e e1
  have h4 := e4.1
  cases o with
  | none =>
    have e3 : (i_g e).1 = S := e3
    rw [e3] at b1; omega
  | some ty =>
    rw [e3.1, List.length_cons] at b1; omega
theorem hM_ok (hx : WTx x) : ∀ (F : List zFr) (o : Option Int32), FsOk x W o F → hM x.1 F ≤ 80 * F.length
  | [], _, _ => Nat.zero_le _
  | f :: r, o, h => by
    have h80 := ops_ok hx h
    obtain ⟨e, S, e1, e2, e3, e4, e5, e6, e7⟩ := h
    have := hM_ok hx r _ e7
    have h3 := mOps_len ((gOf x.1 f.2.1).1.drop 1) f.2.2.2
    show hM x.1 r + (mOps ((gOf x.1 f.2.1).1.drop 1) f.2.2.2).length ≤ 80 * (r.length + 1)
    omega
theorem trR_hd (hi : x.1[f.2.1]? = some e) : trR x.1 (f :: r) = trF x.1 (i_h e) r ++ trR x.1 r := by rw [trR, gOf_e hi]
theorem m_ends {pl : Int32} (h : MG x mi W K nm L H q r nx fu σ) (hl : x.1.length ≤ 800) (hi : x.1[pc]? = some e) (hv : vM e.1 = true) : sm_callM X true (d + 1) 255 [vP (23, 0), vI why, vI (Int32.ofNat (pos vM x.1 pc))] σ = rV (sI (sI (sI σ 23 0 50 why) 23 0 53 e.2.2.2.1) 23 0 57 1) := by
  obtain ⟨w, h1, h2, -⟩ := h
  have h4 := pos_le (v := vM) (l := x.1) (k := pc)
  have hk := (List.getElem?_eq_some_iff.mp hi).1
  obtain ⟨-, -, -, c4⟩ := h1.1.2.1 pc e hi hv
  have e1 : (sI σ 23 0 50 why).2.2.1 23 0 6 = (22, mi) := h2
  have e2 : (sI σ 23 0 50 why).1 66 mi (pos vM x.1 pc) = e.2.2.2.1 := c4
  rw [f_X13_ends, q_X13_ends_0, e1, rq_t, ix_nat (by omega) (by omega), e2]
theorem MW_o3 {a b c' : Int32} {i j k : Nat} (hi : 29 ≤ i ∧ i ≤ 59) (hj : 29 ≤ j ∧ j ≤ 59) (hk : 29 ≤ k ∧ k ≤ 59) (h : MW W σ) : MW W (sI (sI (sI σ 23 0 i a) 23 0 j b) 23 0 k c') := by
  refine MW_i (σ := σ) (fun t i' k' ht => ?_) h
  rw [gI, if_neg (by omega), gI, if_neg (by omega), gI, if_neg (by omega)]
theorem m_endE (h : MG x mi W K nm L H q r nx fu σ) (hl : x.1.length ≤ 800) (hi : x.1[pc]? = some e) (hv : vM e.1 = true) (h0 : why ≠ 0) (h6 : why ≠ 6) : ∃ σ', sm_callM X true (d + 1) 255 [vP (23, 0), vI why, vI (Int32.ofNat (pos vM x.1 pc))] σ = rV σ' ∧ ME x mi q0 (why, v, e.2.2.2.1, W, fu) σ' := by
  refine ⟨_, m_ends (pl := 0) h hl hi hv, ?_⟩
  obtain ⟨w, h1, h2, h3, h4, h5, h6', ⟨h7, h8, h9, h10⟩, -⟩ := h
  refine ⟨MW_o3 (by decide) (by decide) (by decide) w, MTx_s (σ := σ) (fun t k ht => ?_) h1, h2, ?_, ?_, h6', ?_, ?_, fun p hp => ?_⟩
  · rw [gI, if_neg (by omega), gI, if_neg (by omega), gI, if_neg (by omega)]
  · rw [gI, if_pos ⟨rfl, rfl, rfl⟩]
  · rw [gI, if_neg (by omega), gI, if_neg (by omega), gI, if_pos ⟨rfl, rfl, rfl⟩]
  · show σ.1 23 0 52 = if why = 6 then v else 0
    rw [if_neg h6]; exact h9
  · rw [gI, if_neg (by omega), gI, if_pos ⟨rfl, rfl, rfl⟩]
  · show σ.1 23 0 51 = if why = 0 then _ else 0
    rw [if_neg h0]; exact h8
/-- where a catch begins -/
theorem catch_at (hx : WTx x) (hi : x.1[pc]? = some e) (hH : i_h e = j :: H) : ∃ sl e1, sl < 24 ∧ agO x.1 j = Int32.ofNat sl ∧ x.1[tgO x.1 j + 1]? = some e1 ∧ (i_g e1).1 = [] ∧ i_h e1 = H ∧ pos vM x.1 (tgO x.1 j + 1) = pos vM x.1 (tgO x.1 j) ∧ (∀ y ∈ (i_g e1).2.1, y = (sl, (36 : Int32)) ∨ (y.1 ≠ sl ∧ y ∈ (i_g e).2.1)) ∧ tgO x.1 j < x.1.length := by
  obtain ⟨⟨-, -, hh, -, -⟩, -⟩ := hx.1 _ e hi
  obtain ⟨e', g1, g2, g3, g4, g5⟩ := hh j H hH
  obtain ⟨-, hjk⟩ := hx.1 j e' g1
  have hjk := hjk (by simp)
  obtain ⟨op, arg, tgt, pl, ty, gh⟩ := e'
  have g2 : op = 33 := g2
  subst g2
  have tg : tgO x.1 j = tgt := by unfold tgO; rw [g1]; rfl
  have ag : agO x.1 j = arg := by unfold agO; rw [g1]; rfl
  obtain ⟨-, e2, k1, k2, k3, k4, k5, k6, k7⟩ := hjk
  have k1 : x.1[tgt]? = some e2 := k1
  obtain ⟨⟨-, -, -, tk, fl⟩, -⟩ := hx.1 _ e2 k1
  obtain ⟨op2, arg2, tgt2, pl2, ty2, gh2⟩ := e2
  have k2 : op2 = 2 := k2
  subst k2
  have k3 : arg2 = arg := k3
  subst k3
  have fl := fl rfl
  have fl : Lands x.1 none (tgt + 1) (gh2.1, gSet arg2.toNatClampNeg 36 gh2.2.1, gh2.2.2) := fl
  obtain ⟨tk1, sl, s1, s2⟩ := tk
  have tk1 : gh2.1 = [] := tk1
  have s2 : arg2 = Int32.ofNat sl := s2
  rw [s2, i_tn (by omega)] at fl
  obtain ⟨e1, l1, l2, l3, l4, l5, l6⟩ := Lands_0 fl
  have l3 : (i_g e1).1 = gh2.1 := l3
  have l6 : i_h e1 = gh2.2.2.2 := l6
  have k7 : gh2.2.2.2 = gh.2.2.2 := k7
  have g3 : gh.2.2.2 = H := g3
  refine ⟨sl, e1, s1, ag.trans s2, by rw [tg]; exact l1, l3.trans tk1, by rw [l6, k7, g3], ?_, fun y hy => ?_, by rw [tg]; exact (List.getElem?_eq_some_iff.mp k1).1⟩
  · rw [tg, pos_s k1, if_neg (show ¬ vM 2 = true by decide)]; rfl
  · have hy := l4 y hy
    have hy : y ∈ (sl, (36 : Int32)) :: gh2.2.1.filter (fun x => x.1 != sl) := hy
    rcases List.mem_cons.mp hy with z | z
    · exact Or.inl z
    · obtain ⟨z1, z2⟩ := List.mem_filter.mp z
      exact Or.inr ⟨by simpa using z2, g4 y (k5 y z1)⟩
def MFh (l : List zI) (σ : sm_S) (F : List zFr) : Prop := match F with
  | [] => True
  | f :: r => MF1 l (gOf l f.2.1).2.1 f.2.2.1 [] f.1 r σ ∧ MF l σ r
theorem MFh_of (h : MF l σ F) : MFh l σ F := by
  cases F with
  | nil => trivial
  | cons f r => exact ⟨MF1_0 h.1, h.2⟩
theorem unw_T (hx : WTx x) : ∀ (F : List zFr) (s : Nat) (o : Option Int32), ((o = none ∧ s = 0) ∨ (o ≠ none ∧ s = 1)) → FsOk x W o F → MFh x.1 σ F → F.length ≤ 15 → (match trR x.1 F with
   | [] => unw x.1 v s F = none
   | (j, dp, bt) :: T => ∃ (f : zFr) (r : List zFr) (e : zI) (H : List Nat), unw x.1 v s F = some ((f.1, tgO x.1 j + 1, fset f.2.2.1 (agO x.1 j).toNatClampNeg v, []) :: r) ∧ r.length = dp ∧ hM x.1 r = bt ∧ x.1[f.2.1]? = some e ∧ i_h e = j :: H ∧ T = trF x.1 H r ++ trR x.1 r ∧ MF1 x.1 (i_g e).2.1 f.2.2.1 [] f.1 r σ ∧ MF x.1 σ r ∧ r.length ≤ 14 ∧ hM x.1 r ≤ hM x.1 F)
  | [], _, _, _, _, _, _ => rfl
  | f :: r, s, o, ho, ⟨e, S, e1, e2, e3, e4, e5, e6, e7⟩, hc, hl => by
    have key : (x.1[f.2.1 - s]?).map i_h = some (i_h e) := by
      rcases ho with ⟨rfl, rfl⟩ | ⟨ho, rfl⟩
      · rw [Nat.sub_zero, e1]; rfl
      · cases o with
        | none => exact absurd rfl ho
        | some ty =>
          obtain ⟨-, k, e', k1, k2, -, k4⟩ := e3
          rw [k1, Nat.add_sub_cancel, k2, ← k4]; rfl
    rw [List.length_cons] at hl
    rw [trR_hd e1]
    cases hH : i_h e with
    | nil =>
      rw [hH] at key
      have h := unw_T hx r 1 (some (i_g e).2.2.1) (Or.inr ⟨by simp, rfl⟩) e7 (MFh_of hc.2) (by omega)
      show match trR x.1 r with
        | [] => unw x.1 v s (f :: r) = none
        | (j, dp, bt) :: T => _
      have eu : unw x.1 v s (f :: r) = unw x.1 v 1 r := by rw [unw, key]
      cases hT : trR x.1 r with
      | nil => rw [hT] at h; exact eu.trans h
      | cons a T =>
        obtain ⟨j, dp, bt⟩ := a
        rw [hT] at h
        obtain ⟨f', r', e', H', g1, g2, g3, g4, g5, g6, g7, g8, g9, g10⟩ := h
        exact ⟨f', r', e', H', eu.trans g1, g2, g3, g4, g5, g6, g7, g8, g9, Nat.le_trans g10 (Nat.le_add_right _ _)⟩
    | cons j H =>
      rw [hH] at key
      obtain ⟨⟨-, -, hh, -, -⟩, -⟩ := hx.1 _ e e1
      obtain ⟨e', g1, -⟩ := hh j H hH
      have tg : tgO x.1 j = e'.2.2.1 := by unfold tgO; rw [g1]; rfl
      have ag : agO x.1 j = e'.2.1 := by unfold agO; rw [g1]; rfl
      refine ⟨f, r, e, H, ?_, rfl, rfl, e1, hH, rfl, ?_, hc.2, by omega, Nat.le_add_right _ _⟩
      · rw [unw, key, tg, ag]
        show (match x.1[j]? with
          | some e => some ((f.1, e.2.2.1 + 1, fset f.2.2.1 e.2.1.toNatClampNeg v, []) :: r)
          | none => none) = _
        rw [g1]
      · have := hc.1
        rw [gOf_e e1] at this
        exact this
/-- a fault that a try takes: what is written -/
theorem m_fault_q {wf dp bt sl : Nat} {stp k' : Int32} (h27 : σ.1 23 0 27 = Int32.ofNat wf) (hwf : wf < 600) (h47 : σ.1 23 0 47 = Int32.ofNat (n + 1)) (hn : n < 200) (h87 : σ.1 87 0 n = Int32.ofNat dp) (h88 : σ.1 88 0 n = Int32.ofNat bt) (h89 : σ.1 89 0 n = Int32.ofNat sl) (hs : 24 * dp + sl < 360) (h86 : σ.1 86 0 n = stp) :
    sm_callM X true (d + 1) 256 [vP (23, 0), vI why, vI own, vI k'] σ = rV (sI (sI (sI (sI (sI (sI σ 23 0 27 (Int32.ofNat (wf + 1))) 23 0 47 (Int32.ofNat n)) 23 0 39 (Int32.ofNat dp)) 23 0 37 (Int32.ofNat bt)) 82 0 (24 * dp + sl) (if why = 6 then own else why)) 23 0 48 stp) := by
  have e1 : (sI σ 23 0 27 (Int32.ofNat (wf + 1))).1 23 0 47 = Int32.ofNat (n + 1) := h47
  have e2 : (sI (sI σ 23 0 27 (Int32.ofNat (wf + 1))) 23 0 47 (Int32.ofNat n)).1 23 0 47 = Int32.ofNat n := rfl
  have e3 : (sI (sI σ 23 0 27 (Int32.ofNat (wf + 1))) 23 0 47 (Int32.ofNat n)).1 87 0 n = Int32.ofNat dp := h87
  have e4 : (sI (sI (sI σ 23 0 27 (Int32.ofNat (wf + 1))) 23 0 47 (Int32.ofNat n)) 23 0 39 (Int32.ofNat dp)).1 23 0 47 = Int32.ofNat n := rfl
  have e5 : (sI (sI (sI σ 23 0 27 (Int32.ofNat (wf + 1))) 23 0 47 (Int32.ofNat n)) 23 0 39 (Int32.ofNat dp)).1 88 0 n = Int32.ofNat bt := h88
  have e6 : (sI (sI (sI (sI σ 23 0 27 (Int32.ofNat (wf + 1))) 23 0 47 (Int32.ofNat n)) 23 0 39 (Int32.ofNat dp)) 23 0 37 (Int32.ofNat bt)).1 23 0 47 = Int32.ofNat n := rfl
  have e7 : (sI (sI (sI (sI σ 23 0 27 (Int32.ofNat (wf + 1))) 23 0 47 (Int32.ofNat n)) 23 0 39 (Int32.ofNat dp)) 23 0 37 (Int32.ofNat bt)).1 23 0 39 = Int32.ofNat dp := rfl
  have e8 : (sI (sI (sI (sI σ 23 0 27 (Int32.ofNat (wf + 1))) 23 0 47 (Int32.ofNat n)) 23 0 39 (Int32.ofNat dp)) 23 0 37 (Int32.ofNat bt)).1 89 0 n = Int32.ofNat sl := h89
  have e9 : ∀ w, (sI (sI (sI (sI (sI σ 23 0 27 (Int32.ofNat (wf + 1))) 23 0 47 (Int32.ofNat n)) 23 0 39 (Int32.ofNat dp)) 23 0 37 (Int32.ofNat bt)) 82 0 (24 * dp + sl) w).1 23 0 47 = Int32.ofNat n := fun _ => rfl
  have e10 : ∀ w, (sI (sI (sI (sI (sI σ 23 0 27 (Int32.ofNat (wf + 1))) 23 0 47 (Int32.ofNat n)) 23 0 39 (Int32.ofNat dp)) 23 0 37 (Int32.ofNat bt)) 82 0 (24 * dp + sl) w).1 86 0 n = stp := fun _ => h86
  have e11 : (24 : Int32) * Int32.ofNat dp + Int32.ofNat sl = Int32.ofNat (24 * dp + sl) := by
    rw [show (24 : Int32) = Int32.ofNat 24 from rfl, ← Int32.ofNat_mul, ← Int32.ofNat_add]
  rw [f_X13_fault, q_X13_fault_0, h27, show (600 : Int32) = Int32.ofNat 600 from rfl, if_neg (by rw [i_eq (by omega) (by omega)]; omega), i_s, e1, if_neg (by rw [show (0 : Int32) = Int32.ofNat 0 from rfl, i_eq (by omega) (by omega)]; omega), i_pred, e2, ix_nat hn (by omega), e3, e4, ix_nat hn (by omega), e5, e6, ix_nat hn (by omega), e7, e8, e11]
  by_cases z : why = 6
  · rw [if_pos z, ix_nat hs (by omega), e9, ix_nat hn (by omega), e10, if_pos z]
  · rw [if_neg z, ix_nat hs (by omega), e9, ix_nat hn (by omega), e10, if_neg z]
theorem m_fault (hm : MC x W q0 f r e) (hv : vM e.1 = true) (h : MG x mi W (i_g e).2.1 f.2.2.1 L (i_h e) f.1 r nx fu σ) (h0 : why ≠ 0) (hvv : v = if why = 6 then own else why) : ∃ σ', sm_callM X true (d + 2) 256 [vP (23, 0), vI why, vI own, vI (Int32.ofNat (pos vM x.1 f.2.1))] σ = rV σ' ∧ MO x mi q0 (raiseM x.1 W (f :: r) fu e why v) σ' := by
  obtain ⟨hx, hW, hF, hi, hl, hb⟩ := id hm
  have hfa := hW.1.2.2.2.2.1
  have hlen := hx.2.2.2.1
  have hl' : r.length + 1 ≤ 15 := hl
  have hg := h
  obtain ⟨w, h1, h2, h3, h4, h5, h6, ⟨h7, h8, h9, h10⟩, h11, h12, h13, h14, h15⟩ := h
  have h27 := w.2.2.2.2.2.1
  unfold raiseM
  by_cases z : w_f W = 600
  · obtain ⟨σ1, e1, e2⟩ := m_endE (X := X) (d := d) (q0 := q0) (v := 0) (why := 8) hg hlen hi hv (by decide) (by decide)
    rw [if_pos z, f_X13_fault, q_X13_fault_0, h27, z, if_pos (by decide), e1, bV_r]
    exact ⟨σ1, rfl, e2⟩
  · rw [if_neg z]
    have hw1 : MW (wF W (w_f W + 1)) (sI σ 23 0 27 (Int32.ofNat (w_f W + 1))) := by
      obtain ⟨a, b, t, n, ⟨o1, o2, o3, o4⟩⟩ := w
      exact ⟨a, b, t, n, ⟨o1, by rw [gI, if_pos ⟨rfl, rfl, rfl⟩]; rfl, o3, o4⟩⟩
    have hT := unw_T (v := v) (σ := σ) hx (f :: r) 0 none (Or.inl ⟨rfl, rfl⟩) hF ⟨by rw [gOf_e hi]; exact MF1_0 h11, h12⟩ hl
    have htl := trR_len hx (f :: r)
    rw [List.length_cons] at htl
    rw [← trR_hd hi] at h13
    cases hTc : trR x.1 (f :: r) with
    | nil =>
      rw [hTc] at hT h13
      have hT : unw x.1 v 0 (f :: r) = none := hT
      have e47 : (sI σ 23 0 27 (Int32.ofNat (w_f W + 1))).1 23 0 47 = 0 := h13.1
      have hg1 : MG x mi (wF W (w_f W + 1)) (i_g e).2.1 f.2.2.1 L (i_h e) f.1 r nx fu (sI σ 23 0 27 (Int32.ofNat (w_f W + 1))) := ⟨hw1, MSt_i (σ := σ) (fun t i k ht => by rw [gI, if_neg (by omega)]) rfl hg.2⟩
      have e1 := m_ends (X := X) (d := d) (pl := 0) (why := why) hg1 hlen hi hv
      have fin : ∀ o : Int32, o = (if why = 6 then v else 0) → ME x mi q0 (why, v, e.2.2.2.1, wF W (w_f W + 1), fu) (sI (sI (sI (sI (sI σ 23 0 27 (Int32.ofNat (w_f W + 1))) 23 0 50 why) 23 0 53 e.2.2.2.1) 23 0 57 1) 23 0 52 o) := fun o ho => by
        refine ⟨MW_i (σ := sI σ 23 0 27 (Int32.ofNat (w_f W + 1))) (fun t i k ht => ?_) hw1, MTx_s (σ := σ) (fun t k ht => ?_) h1, h2, rfl, rfl, h6, ho, rfl, fun p hp => ?_⟩
        · rw [gI, if_neg (by omega), gI, if_neg (by omega), gI, if_neg (by omega), gI, if_neg (by omega)]
        · rw [gI, if_neg (by omega), gI, if_neg (by omega), gI, if_neg (by omega), gI, if_neg (by omega), gI, if_neg (by omega)]
        · show σ.1 23 0 51 = if why = 0 then _ else 0
          rw [if_neg h0]; exact h8
      rw [hT, f_X13_fault, q_X13_fault_0, h27, show (600 : Int32) = Int32.ofNat 600 from rfl, if_neg (by rw [i_eq (by omega) (by omega)]; exact z), i_s, e47, if_pos rfl, e1, bV_r]
      by_cases y : why = 6
      · rw [if_pos y]
        exact ⟨_, rfl, fin own (by rw [if_pos y, hvv, if_pos y])⟩
      · rw [if_neg y]
        exact ⟨_, rfl, fin 0 (by rw [if_neg y])⟩
    | cons a T =>
      obtain ⟨j, dp, bt⟩ := a
      rw [hTc] at hT h13
      obtain ⟨f', r', e', H', g1, g2, g3, g4, g5, g6, g7, g8, g9, g10⟩ := hT
      rw [hTc, List.length_cons] at htl
      obtain ⟨sl, e1, c1, c2, c3, c4, c5, c6, c7, c8⟩ := catch_at hx g4 g5
      obtain ⟨t1, t2⟩ := h13
      rw [List.length_cons] at t1 t2
      obtain ⟨u1, u2, u3, u4⟩ := t2 0 j dp bt rfl
      rw [show T.length + 1 - 1 - 0 = T.length by omega] at u1 u2 u3 u4
      rw [c2] at u4
      have e2 := m_fault_q (X := X) (d := d + 1) (why := why) (own := own) (k' := Int32.ofNat (pos vM x.1 f.2.1)) h27 (by omega) t1 (by omega) u2 u3 u4 (by omega) u1
      rw [e2, g1, ← hvv]
      refine ⟨_, rfl, ((f'.1, tgO x.1 j + 1, fset f'.2.2.1 (agO x.1 j).toNatClampNeg v, []) : zFr), r', e1, rfl, c3, MW_i (σ := sI σ 23 0 27 (Int32.ofNat (w_f W + 1))) (fun t i k ht => ?_) hw1, ?_⟩
      · rw [gI, if_neg (by omega), gI, if_neg (by omega), gI, if_neg (by omega), gI, if_neg (by omega), gI, if_neg (by omega)]
      · have hh : hM x.1 (f :: r) ≤ 1300 + 0 ∨ True := Or.inr trivial
        show MSt x mi (i_g e1).2.1 (fset f'.2.2.1 (agO x.1 j).toNatClampNeg v) (mOps (i_g e1).1 []) (i_h e1) f'.1 r' (Int32.ofNat (pos vM x.1 (tgO x.1 j + 1))) fu _
        have em : mOps (i_g e1).1 [] = [] := by rw [c4]; rfl
        rw [em, c5, c6, c2, i_tn (by omega)]
        obtain ⟨a1, a2, a3, a4, a5, a6⟩ := g7
        refine ⟨MTx_s (σ := σ) (fun t k ht => ?_) h1, h2, ?_, ?_, rfl, h6, ⟨h7, h8, h9, h10⟩, ⟨a1, a2, a3, fun y hy => ?_, (fun i c hi => by cases hi), fun y hy => ?_⟩, MF_s (σ := σ) r' (fun j' hj => rfl) (fun j' hj => ?_) (fun j' _ => ⟨rfl, rfl, rfl⟩) g8, ?_, ?_, g9⟩
        · rw [gI, if_neg (by omega), gI, if_neg (by omega), gI, if_neg (by omega), gI, if_neg (by omega), gI, if_neg (by omega), gI, if_neg (by omega)]
        · rw [g3]; rfl
        · rw [g2]; rfl
        · show (if 82 = 82 ∧ 0 = 0 ∧ 24 * r'.length + y.1 = 24 * dp + sl then v else σ.1 82 0 (24 * r'.length + y.1)) = mV y.2 (fset f'.2.2.1 sl v y.1)
          unfold fset
          rcases c7 y hy with q | ⟨q1, q2⟩
          · rw [q, if_pos ⟨rfl, rfl, by rw [g2]⟩, if_pos rfl]; rfl
          · rw [if_neg (by omega), if_neg q1]; exact a4 y q2
        · rcases c7 y hy with q | ⟨q1, q2⟩
          · rw [q]; exact c1
          · exact a6 y q2
        · show (if 82 = 82 ∧ 0 = 0 ∧ j' = 24 * dp + sl then v else σ.1 82 0 j') = _
          rw [if_neg (by omega)]
        · rw [← g6]
          refine ⟨rfl, fun i j' dp' bt' hi' => ?_⟩
          have hlt := (List.getElem?_eq_some_iff.mp hi').1
          have := t2 (i + 1) j' dp' bt' hi'
          rw [show T.length + 1 - 1 - (i + 1) = T.length - 1 - i by omega] at this
          exact this
        · have := hM_ok hx (f :: r) _ hF
          rw [List.length_cons] at this
          show hM x.1 r' + 0 ≤ 1300
          omega
end
