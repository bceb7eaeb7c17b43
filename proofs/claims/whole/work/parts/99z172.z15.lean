section
/-! THE CLASS's RUN: its end, what is told of it -/
variable {X : Nat × (Nat → Int32)} {d : Nat} {s σ σ' τ : sm_S} {W W' : zW} {B : Nat × Nat} {i k m j ci q pc q0 tgt n : Nat} {arg ty pl c nx a b : Int32} {x : zTx} {nm : Nat → Int32} {fu : Nat} {e : zI} {p : zP} {z : Int32 × Int32 × Int32 × zW × Nat} {d1 d3 d4 : sm_V}
/-- what is told of a run of a proc that gives ty -/
def tell (ty : Int32) (z : Int32 × Int32 × Int32 × zW × Nat) : Nat → Int32 := fun k => match k with
  | 0 => z.1
  | 1 => if z.1 = 0 ∧ ty = 36 then z.2.1 else 0
  | 2 => if z.1 = 0 ∧ cRef ty = 1 ∧ z.2.1 ≠ 0 then tyOf z.2.2.2.1 z.2.1 else -1
  | 3 => if z.1 = 0 ∧ cRef ty = 1 ∧ z.2.1 ≠ 0 then (if z.2.1 < 0 then Int32.ofNat (rowAt z.2.2.2.1 (ixR z.2.1)).2.length else z.2.1 - 1) else -1
  | 4 => Int32.ofNat z.2.2.2.2
  | 5 => if z.1 = 6 then z.2.1 else 0
  | _ => z.2.2.1
def CTd (T : Nat → Int32) (σ : sm_S) : Prop := σ.1 13 0 6 = 1 ∧ ∀ k, k < 7 → σ.1 45 0 k = T k
theorem ix7 {k : Nat} {f : Nat → sm_R} (hk : k < 7) : sm_ix (Int32.ofNat k) 7 f = f k := ix_nat hk (by decide)
theorem ix7_0 {f : Nat → sm_R} : sm_ix 0 7 f = f 0 := ix7 (k := 0) (by omega)
theorem ix7_1 {f : Nat → sm_R} : sm_ix 1 7 f = f 1 := ix7 (k := 1) (by omega)
theorem ix7_2 {f : Nat → sm_R} : sm_ix 2 7 f = f 2 := ix7 (k := 2) (by omega)
theorem ix7_3 {f : Nat → sm_R} : sm_ix 3 7 f = f 3 := ix7 (k := 3) (by omega)
theorem ix7_4 {f : Nat → sm_R} : sm_ix 4 7 f = f 4 := ix7 (k := 4) (by omega)
theorem ix7_5 {f : Nat → sm_R} : sm_ix 5 7 f = f 5 := ix7 (k := 5) (by omega)
theorem ix7_6 {f : Nat → sm_R} : sm_ix 6 7 f = f 6 := ix7 (k := 6) (by omega)
/-- the seven ints, one by one -/
def kpS (z0 z1 z2 z3 z4 z5 z6 : Int32) (σ : sm_S) : sm_S := sI (sI (sI (sI (sI (sI (sI (sI σ 13 0 6 1) 45 0 0 z0) 45 0 1 z1) 45 0 2 z2) 45 0 3 z3) 45 0 4 z4) 45 0 5 z5) 45 0 6 z6
theorem kp_151 (h7 : σ.2.2.1 13 0 7 = (10, ci)) {x2 pl : Int32} (hpl : if x2 = 0 then (∀ t : sm_S, t.1 10 = σ.1 10 → (∀ k, 30 ≤ k → k ≤ 38 → t.1 k = σ.1 k) → sm_callM X true d 21 [vP (10, ci), vI (σ.1 13 0 13)] t = rI pl t) else pl = -1) : sm_go (sm_ZZ X) sm_PP true (sm_callM X true d) 43 151 [vP (13, 0), d1, vI x2, d3, d4] [] σ = rV (sI (sI (sI σ 45 0 4 (σ.1 13 0 11)) 45 0 5 (if σ.1 13 0 12 = 6 then σ.1 13 0 14 else 0)) 45 0 6 pl) := by
  have e : ∀ (own : Int32), sm_go (sm_ZZ X) sm_PP true (sm_callM X true d) 43 183 [vP (13, 0), vU, vI x2, vU, vU] [vI own, vI 5, vP (45, 0)] (sI σ 45 0 4 (σ.1 13 0 11)) = rV (sI (sI (sI σ 45 0 4 (σ.1 13 0 11)) 45 0 5 own) 45 0 6 pl) := fun own => by
    rw [q_X3_keepRun_183, rq_t, ix7_5]
    by_cases q : x2 = 0
    · rw [if_pos q] at hpl
      have h7' : (sI (sI σ 45 0 4 (σ.1 13 0 11)) 45 0 5 own).2.2.1 13 0 7 = (10, ci) := h7
      have h13 : (sI (sI σ 45 0 4 (σ.1 13 0 11)) 45 0 5 own).1 13 0 13 = σ.1 13 0 13 := rfl
      rw [if_pos q, h7', if_pos rfl, h13, hpl _ (by funext i k; rfl) (fun k h1 h2 => by
        funext i j
        show (if k = 45 ∧ i = 0 ∧ j = 5 then own else if k = 45 ∧ i = 0 ∧ j = 4 then _ else σ.1 k i j) = _
        rw [if_neg (by omega), if_neg (by omega)]), bI_r, ix7_6]
    · rw [if_neg q] at hpl
      rw [if_neg q, ix7_6, hpl]
  rw [q_X3_keepRun_151, ix7_4]
  have h12 : (sI σ 45 0 4 (σ.1 13 0 11)).1 13 0 12 = σ.1 13 0 12 := rfl
  have h14 : (sI σ 45 0 4 (σ.1 13 0 11)).1 13 0 14 = σ.1 13 0 14 := rfl
  rw [h12, h14]
  by_cases q : σ.1 13 0 12 = 6
  · rw [if_pos q, e, if_pos q]
  · rw [if_neg q, e, if_neg q]
theorem c_typeOf0 : sm_callM X true (d + 2) 165 [vP (20, 0), vI 0] σ = rI (-1) σ := by
  rw [f_X10_typeOf, q_X10_typeOf_0, c_rowOf0 (by decide), bP_r, if_pos rfl, c_vehOf0, bP_r, if_pos rfl]
/-- up to the fourth: a run that was done and gave a reference -/
theorem kp_49r (hW : WW W) (h : CW W B σ) (hv : VT W ty c) (hr : cRef ty = 1) (h12 : σ.1 13 0 12 = 0) (h14 : σ.1 13 0 14 = c) : ∃ qr, sm_callM X true (d + 2) 162 [vP (20, 0), vI c] σ = rP qr σ ∧ ∃ τ d4', sm_go (sm_ZZ X) sm_PP true (sm_callM X true (d + 2)) 43 49 [vP (13, 0), vI ty, vI 1, vI 1, d4] [vP qr] σ = sm_go (sm_ZZ X) sm_PP true (sm_callM X true (d + 2)) 43 151 [vP (13, 0), vU, vI 1, vU, d4'] [] τ ∧ τ.2.2.1 = σ.2.2.1 ∧ τ.2.2.2 = σ.2.2.2 ∧ τ.1 13 0 6 = 1 ∧ (∀ t i k, ¬ (t = 13 ∧ i = 0 ∧ k = 6) → t ≠ 45 → τ.1 t i k = σ.1 t i k) ∧ τ.1 45 0 0 = 0 ∧ τ.1 45 0 1 = 0 ∧ τ.1 45 0 2 = (if c ≠ 0 then tyOf W c else -1) ∧ τ.1 45 0 3 = (if c ≠ 0 then (if c < 0 then Int32.ofNat (rowAt W (ixR c)).2.length else c - 1) else -1) := by
  have h36 : ty ≠ 36 := fun z => by rw [z] at hr; exact absurd hr (by decide)
  have a1 := hW.1.1
  have a2 := hW.1.2.1
  have e49 : ∀ qr : Nat × Nat, sm_go (sm_ZZ X) sm_PP true (sm_callM X true (d + 2)) 43 49 [vP (13, 0), vI ty, vI 1, vI 1, d4] [vP qr] σ = sm_go (sm_ZZ X) sm_PP true (sm_callM X true (d + 2)) 43 89 [vP (13, 0), vI ty, vI 1, vI 1, vP qr] [vI 0, vI 1, vP (45, 0)] (sI (sI σ 13 0 6 1) 45 0 0 0) := fun qr => by
    have e1 : (sI σ 13 0 6 1).1 13 0 12 = 0 := h12
    rw [q_X3_keepRun_49, ix7_0, if_neg (by decide), if_neg h36, e1]
  have e89 : ∀ (qr : Nat × Nat) (v2 : Int32), sm_callM X true (d + 2) 165 [vP (20, 0), vI c] (sI (sI (sI σ 13 0 6 1) 45 0 0 0) 45 0 1 0) = rI v2 (sI (sI (sI σ 13 0 6 1) 45 0 0 0) 45 0 1 0) → sm_go (sm_ZZ X) sm_PP true (sm_callM X true (d + 2)) 43 89 [vP (13, 0), vI ty, vI 1, vI 1, vP qr] [vI 0, vI 1, vP (45, 0)] (sI (sI σ 13 0 6 1) 45 0 0 0) = sm_go (sm_ZZ X) sm_PP true (sm_callM X true (d + 2)) 43 134 [vP (13, 0), vU, vI 1, vI 1, vP qr] [vI (c - 1), vI 3, vP (45, 0)] (sI (sI (sI (sI σ 13 0 6 1) 45 0 0 0) 45 0 1 0) 45 0 2 v2) := fun qr v2 hv2 => by
    have e1 : (sI (sI (sI σ 13 0 6 1) 45 0 0 0) 45 0 1 0).1 13 0 14 = c := h14
    have e2 : (sI (sI (sI (sI σ 13 0 6 1) 45 0 0 0) 45 0 1 0) 45 0 2 v2).1 13 0 14 = c := h14
    rw [q_X3_keepRun_89, rq_t, ix7_1, if_neg (by decide), e1, hv2, bI_r, q_X3_keepRun_114, rq_t, ix7_2, if_neg (by decide), e2]
  have w0 : CW W B (sI (sI (sI σ 13 0 6 1) 45 0 0 0) 45 0 1 0) := h
  by_cases z : c = 0
  · refine ⟨(0, 0), by rw [z]; exact c_rowOf0 (by decide), sI (sI (sI (sI (sI σ 13 0 6 1) 45 0 0 0) 45 0 1 0) 45 0 2 (-1)) 45 0 3 (-1), vP (0, 0), ?_, rfl, rfl, rfl, fun t i k h1 h2 => ?_, rfl, rfl, ?_, ?_⟩
    · rw [e49, e89 _ (-1) (by rw [z]; exact c_typeOf0), q_X3_keepRun_134, rq_t, ix7_3, if_pos rfl, z]; rfl
    · rw [gI, if_neg (by omega), gI, if_neg (by omega), gI, if_neg (by omega), gI, if_neg (by omega), gI, if_neg h1]
    · rw [if_neg (fun y => y z)]; rfl
    · rw [if_neg (fun y => y z)]; rfl
  · rcases VT_ref hv hr z with ⟨v, kk, n1, hc, -⟩ | ⟨v, kk, n1, hc, -⟩
    · have hn := rfV_pos (n := v) (by omega)
      have ht := c_tyOf (X := X) (d := d) hW w0 hv hr z
      refine ⟨(0, 0), by rw [hc]; exact c_rowOf0 hn.1, sI (sI (sI (sI (sI σ 13 0 6 1) 45 0 0 0) 45 0 1 0) 45 0 2 (tyOf W c)) 45 0 3 (c - 1), vP (0, 0), ?_, rfl, rfl, rfl, fun t i k h1 h2 => ?_, rfl, rfl, ?_, ?_⟩
      · rw [e49, e89 _ _ ht, q_X3_keepRun_134, rq_t, ix7_3, if_pos rfl]
      · rw [gI, if_neg (by omega), gI, if_neg (by omega), gI, if_neg (by omega), gI, if_neg (by omega), gI, if_neg h1]
      · rw [if_pos z]; rfl
      · rw [if_pos z, if_neg (by rw [hc]; exact hn.1)]; rfl
    · have ht := c_tyOf (X := X) (d := d) hW w0 hv hr z
      refine ⟨(16, v), by rw [hc]; exact c_rowOf hW h n1, sI (sI (sI (sI (sI (sI σ 13 0 6 1) 45 0 0 0) 45 0 1 0) 45 0 2 (tyOf W c)) 45 0 3 (c - 1)) 45 0 3 (Int32.ofNat (rowAt W v).2.length), vP (16, v), ?_, rfl, rfl, rfl, fun t i k h1 h2 => ?_, rfl, rfl, ?_, ?_⟩
      · have e3 : (sI (sI (sI (sI (sI σ 13 0 6 1) 45 0 0 0) 45 0 1 0) 45 0 2 (tyOf W c)) 45 0 3 (c - 1)).1 16 v 2 = Int32.ofNat (rowAt W v).2.length := (h.2.1.2.2.2.2.1 v n1).2.2.2.1
        rw [e49, e89 _ _ ht, q_X3_keepRun_134, rq_t, ix7_3, if_neg n16, rq_t, ix7_3, e3]
      · rw [gI, if_neg (by omega), gI, if_neg (by omega), gI, if_neg (by omega), gI, if_neg (by omega), gI, if_neg (by omega), gI, if_neg h1]
      · rw [if_pos z]; rfl
      · rw [if_pos z, if_pos (by rw [hc]; exact rfR_neg (by omega)), hc, ixR_rf (by omega)]; rfl
/-- up to the fourth: a run that gave no reference -/
theorem kp_49n {x1 x2 : Int32} (hn : x2 = 0 ∨ x1 = 36 ∨ x1 = 38) : sm_go (sm_ZZ X) sm_PP true (sm_callM X true d) 43 49 [vP (13, 0), vI x1, vI x2, vI 0, d4] [vP (0, 0)] σ = sm_go (sm_ZZ X) sm_PP true (sm_callM X true d) 43 151 [vP (13, 0), vU, vI x2, vU, vP (0, 0)] [] (sI (sI (sI (sI (sI σ 13 0 6 1) 45 0 0 (σ.1 13 0 12)) 45 0 1 (if x2 ≠ 0 ∧ x1 = 36 then σ.1 13 0 14 else 0)) 45 0 2 (-1)) 45 0 3 (-1)) := by
  have e : ∀ (v : Int32) (d1 : Int32) (τ : sm_S), sm_go (sm_ZZ X) sm_PP true (sm_callM X true d) 43 89 [vP (13, 0), vI d1, vI x2, vI 0, vP (0, 0)] [vI v, vI 1, vP (45, 0)] τ = sm_go (sm_ZZ X) sm_PP true (sm_callM X true d) 43 151 [vP (13, 0), vU, vI x2, vU, vP (0, 0)] [] (sI (sI (sI τ 45 0 1 v) 45 0 2 (-1)) 45 0 3 (-1)) := fun v d1 τ => by
    rw [q_X3_keepRun_89, rq_t, ix7_1, if_pos rfl, q_X3_keepRun_114, rq_t, ix7_2, if_pos rfl, q_X3_keepRun_134, rq_t, ix7_3, if_pos rfl]
  rw [q_X3_keepRun_49, ix7_0]
  by_cases q : x2 = 0
  · rw [if_pos q, e, if_neg (fun y => y.1 q)]; rfl
  · rw [if_neg q]
    by_cases w : x1 = 36
    · rw [if_pos w, e, if_pos ⟨q, w⟩]; rfl
    · rw [if_neg w, e, if_neg (fun y => w y.2)]; rfl
end
