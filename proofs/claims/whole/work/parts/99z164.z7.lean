section
/-! THE CLASS's MACHINE: a proc is entered, left; a fault -/
variable {X : Nat × (Nat → Int32)} {d : Nat} {s σ σ' : sm_S} {W W' : zW} {B : Nat × Nat} {n i k m j ci b q pc : Nat} {c t y nx v why : Int32} {x : zTx} {K K' : List (Nat × Int32)} {nm : Nat → Int32} {S : List Int32} {r : List zFr} {fu : Nat} {l : List zI} {e : zI} {p : zP}
theorem c_isPrT (h : CTx x ci σ) (hp : x.2.2[k]? = some p) : sm_callM X true (d + 1) 3 [vP (10, ci), vI (Int32.ofNat (5 + k))] σ = rI 1 σ := by
  have hk := (List.getElem?_eq_some_iff.mp hp).1
  have h12 := h.2.2.1
  rw [f_X0_isProc, q_X0_isProc_0, if_neg (i_nn (by omega)), h.2.1, if_pos (by rw [i_lt (by omega) (by omega)]; omega)]
theorem c_procOf (h : CTx x ci σ) (hp : x.2.2[k]? = some p) : sm_callM X true (d + 2) 8 [vP (10, ci), vI (Int32.ofNat (5 + k))] σ = rI (Int32.ofNat p.2.2.1.length) σ ∧ sm_callM X true (d + 2) 10 [vP (10, ci), vI (Int32.ofNat (5 + k))] σ = rI p.2.1 σ ∧ sm_callM X true (d + 2) 11 [vP (10, ci), vI (Int32.ofNat (5 + k))] σ = rI (Int32.ofNat (pos vC x.1 p.2.2.2)) σ := by
  have hk := (List.getElem?_eq_some_iff.mp hp).1
  have h12 := h.2.2.1
  have hi := c_isPrT (X := X) (d := d) h hp
  obtain ⟨g1, g2, g3, g4, g5, g6⟩ := h.2.2.2 k p hp
  refine ⟨?_, ?_, ?_⟩
  · rw [f_X0_parameterCount, q_X0_parameterCount_0, hi, bI_r, if_neg (by decide), ix_nat (by omega) (by omega), g4]
  · rw [f_X0_given, q_X0_given_0, hi, bI_r, if_neg (by decide), ix_nat (by omega) (by omega), g5]
  · rw [f_X0_start, q_X0_start_0, hi, bI_r, if_neg (by decide), ix_nat (by omega) (by omega), g2]
/-- a proc is entered: the arguments are its first names -/
theorem c_enter (h : CG x ci W B K nm S r (Int32.ofNat (pos vC x.1 pc)) fu σ) (hp : x.2.2[k]? = some p) (hS : p.2.2.1.length ≤ S.length) (hr : r.length < 14) (hk : ∀ y ∈ knw x.1 pc, y ∈ K) (hb : hgt r + 24 + S.length + 24 ≤ 1560 + p.2.2.1.length) :
    ∃ σ', sm_callM X true (d + 3) 50 [vP (13, 0), vI (Int32.ofNat (5 + k))] σ = rV σ' ∧ CG x ci W B (kPar p.2.2.1) (argN p.2.2.1.length S) [] ((q, pc, nm, S.drop p.2.2.1.length) :: r) (Int32.ofNat (pos vC x.1 p.2.2.2)) fu σ' := by
  obtain ⟨w, h1, h2, h3, h4, h5, h6, h7, ⟨a1, a2, a3, a4, a5⟩, h9, h10, h11⟩ := h
  obtain ⟨p1, p2, p3⟩ := c_procOf (X := X) (d := d) h1 hp
  have h4p : p.2.2.1.length ≤ 4 := (h1.2.2.2 k p hp).2.2.1
  have hh : hgt ((q, pc, nm, S.drop p.2.2.1.length) :: r) = hgt r + 24 + S.length - p.2.2.1.length := by
    show hgt r + 24 + (S.drop p.2.2.1.length).length = _
    rw [List.length_drop]; omega
  have e0 : Int32.ofNat (hgt r + 24 + S.length) - Int32.ofNat p.2.2.1.length = Int32.ofNat (hgt ((q, pc, nm, S.drop p.2.2.1.length) :: r)) := by
    rw [show hgt r + 24 + S.length = p.2.2.1.length + hgt ((q, pc, nm, S.drop p.2.2.1.length) :: r) by omega]
    exact i_sub
  rw [f_X3_enter, q_X3_enter_0, h4, show (15 : Int32) = Int32.ofNat 15 from rfl, if_pos (by rw [i_lt (by omega) (by omega)]; omega), h2, if_pos rfl, p1, bI_r, h3, e0]
  generalize hH : hgt ((q, pc, nm, S.drop p.2.2.1.length) :: r) = H at hh e0 ⊢
  rw [ix_nat (by omega) (by omega)]
  have e1 : (sI σ 43 0 (r.length + 1) (Int32.ofNat H)).1 13 0 9 = Int32.ofNat (r.length + 1) := h4
  have e2 : (sI σ 43 0 (r.length + 1) (Int32.ofNat H)).1 13 0 10 = Int32.ofNat (pos vC x.1 pc) := h5
  rw [e1, ix_nat (by omega) (by omega), e2]
  have e3 : (sI (sI σ 43 0 (r.length + 1) (Int32.ofNat H)) 44 0 (r.length + 1) (Int32.ofNat (pos vC x.1 pc))).1 13 0 9 = Int32.ofNat (r.length + 1) := h4
  rw [e3, ix_nat (by omega) (by omega)]
  have e4 : (sI (sI σ 43 0 (r.length + 1) (Int32.ofNat H)) 44 0 (r.length + 1) (Int32.ofNat (pos vC x.1 pc))).1 43 0 (r.length + 1) = Int32.ofNat H := by
    rw [gI, if_neg (by omega), gI, if_pos ⟨rfl, rfl, rfl⟩]
  rw [e4, show (24 : Int32) = Int32.ofNat 24 from rfl, i_add]
  have e5 : (sI (sI (sI σ 43 0 (r.length + 1) (Int32.ofNat H)) 44 0 (r.length + 1) (Int32.ofNat (pos vC x.1 pc))) 13 0 8 (Int32.ofNat (H + 24))).1 13 0 9 = Int32.ofNat (r.length + 1) := h4
  rw [e5, i_s]
  generalize hτ : sI (sI (sI (sI σ 43 0 (r.length + 1) (Int32.ofNat H)) 44 0 (r.length + 1) (Int32.ofNat (pos vC x.1 pc))) 13 0 8 (Int32.ofNat (H + 24))) 13 0 9 (Int32.ofNat (r.length + 1 + 1)) = τ
  have t7 : τ.2.2.1 13 0 7 = (10, ci) := by rw [← hτ]; exact h2
  have tx : CTx x ci τ := by rw [← hτ]; exact h1
  obtain ⟨-, -, p3'⟩ := c_procOf (X := X) (d := d) tx hp
  rw [t7, if_pos rfl, p3', bI_r]
  subst hτ
  refine ⟨_, rfl, w, h1, h2, ?_, ?_, ?_, h6, h7, ⟨?_, fun g r' hg => ?_, fun y hy => ?_, fun i c hi => ?_, fun y hy => ?_⟩, ⟨⟨?_, fun g r' hg => ?_, fun y hy => ?_, fun i c hi => ?_, fun y hy => a5 y (hk y hy)⟩, ?_⟩, ?_, ?_⟩
  · rw [hH, gI, if_neg (by omega), gI, if_neg (by omega), gI, if_pos ⟨rfl, rfl, rfl⟩]; rfl
  · rw [gI, if_neg (by omega), gI, if_pos ⟨rfl, rfl, rfl⟩]; rfl
  · rw [gI, if_pos ⟨rfl, rfl, rfl⟩]
  · rw [hH, gI, if_neg (by omega), gI, if_neg (by omega), gI, if_neg (by omega), gI, if_neg (by omega), gI, if_pos ⟨rfl, rfl, rfl⟩]
  · cases hg
    rw [gI, if_neg (by omega), gI, if_neg (by omega), gI, if_neg (by omega), gI, if_pos ⟨rfl, rfl, rfl⟩]
  · have hy' := kPar_mem hy
    have hlt := (List.getElem?_eq_some_iff.mp hy').1
    rw [hH, gI, if_neg (by omega), gI, if_neg (by omega), gI, if_neg (by omega), gI, if_neg (by omega), gI, if_neg (by omega)]
    unfold argN
    rw [if_pos hlt]
    have hlo : p.2.2.1.length - 1 - y.1 < S.length := by omega
    have := a4 (p.2.2.1.length - 1 - y.1) (S[p.2.2.1.length - 1 - y.1]) (List.getElem?_eq_getElem hlo)
    rw [List.getD_eq_getElem?_getD, List.getElem?_eq_getElem hlo]
    rw [show hgt r + 24 + (S.length - 1 - (p.2.2.1.length - 1 - y.1)) = H + y.1 by omega] at this
    exact this
  · cases hi
  · have := kPar_lt y hy; omega
  · rw [gI, if_neg (by omega), gI, if_neg (by omega), gI, if_neg (by omega), gI, if_neg (by omega), gI, if_neg (by omega)]; exact a1
  · rw [gI, if_neg (by omega), gI, if_neg (by omega), gI, if_neg (by omega), gI, if_neg (by omega), gI, if_neg (by omega)]; exact a2 g r' hg
  · exact a3 y (hk y hy)
  · have hi : (S.drop p.2.2.1.length)[i]? = some c := hi
    have hlt := (List.getElem?_eq_some_iff.mp hi).1
    rw [List.length_drop] at hlt
    rw [List.getElem?_drop] at hi
    have := a4 _ c hi
    show σ.1 42 0 (hgt r + 24 + ((S.drop p.2.2.1.length).length - 1 - i)) = c
    rw [List.length_drop, show S.length - p.2.2.1.length - 1 - i = S.length - 1 - (p.2.2.1.length + i) by omega]
    exact this
  · refine CF_s (σ := σ) r (fun j hj => rfl) (fun j hj => ⟨?_, ?_⟩) h9
    · rw [gI, if_neg (by omega), gI, if_neg (by omega), gI, if_neg (by omega), gI, if_neg (by omega), gI, if_neg (by omega)]
    · rw [gI, if_neg (by omega), gI, if_neg (by omega), gI, if_neg (by omega), gI, if_neg (by omega), gI, if_neg (by omega)]
  · rw [hH]; show H + 24 + 0 ≤ 1560; omega
  · show r.length + 1 ≤ 14; omega
/-- what the class has at the end -/
def CE (x : zTx) (ci : Nat) (B : Nat × Nat) (z : Int32 × Int32 × Int32 × zW × Nat) (σ : sm_S) : Prop := CW z.2.2.2.1 B σ ∧ CTx x ci σ ∧ σ.2.2.1 13 0 7 = (10, ci) ∧ σ.1 13 0 12 = z.1 ∧ σ.1 13 0 11 = Int32.ofNat z.2.2.2.2 ∧ (z.1 = 0 ∨ z.1 = 6 → σ.1 13 0 14 = z.2.1) ∧ (z.1 ≠ 0 → ∃ k e, x.1[k]? = some e ∧ vC e.1 = true ∧ σ.1 13 0 13 = Int32.ofNat (pos vC x.1 k) ∧ e.2.2.2.1 = z.2.2.1) ∧ (z.1 = 0 → z.2.2.1 = -1)
theorem c_leave0 (h : CG x ci W B K nm S [] nx fu σ) : ∃ σ', sm_callM X true (d + 2) 51 [vP (13, 0), vI v] σ = rV σ' ∧ CE x ci B (0, v, -1, W, fu) σ' := by
  have hb := c_base (X := X) (d := d) h
  obtain ⟨w, h1, h2, h3, h4, h5, h6, h7, -⟩ := h
  rw [f_X3_leave, q_X3_leave_0, hb, bI_r]
  have e1 : (sI σ 13 0 8 (Int32.ofNat (hgt []))).1 13 0 9 = Int32.ofNat 1 := h4
  rw [e1, if_pos (by decide), show Int32.ofNat 1 - 1 = Int32.ofNat 0 from rfl]
  have e2 : (sI (sI σ 13 0 8 (Int32.ofNat (hgt []))) 13 0 9 (Int32.ofNat 0)).1 13 0 9 = Int32.ofNat 0 := by rw [gI, if_pos ⟨rfl, rfl, rfl⟩]
  rw [e2, ix_nat (by omega) (by omega), q_X3_leave_38]
  have e4 : (sI (sI (sI σ 13 0 8 (Int32.ofNat (hgt []))) 13 0 9 (Int32.ofNat 0)) 13 0 10 ((sI (sI σ 13 0 8 (Int32.ofNat (hgt []))) 13 0 9 (Int32.ofNat 0)).1 44 0 0)).1 13 0 9 = Int32.ofNat 0 := e2
  rw [e4, if_neg (by decide)]
  refine ⟨_, rfl, w, h1, h2, ?_, h6, fun _ => ?_, fun z => absurd rfl z, fun _ => rfl⟩
  · rw [gI, if_pos ⟨rfl, rfl, rfl⟩]
  · rw [gI, if_neg (by omega), gI, if_pos ⟨rfl, rfl, rfl⟩]
theorem c_leave {g : zFr} (h : CG x ci W B K nm S (g :: r) nx fu σ) : ∃ σ', sm_callM X true (d + 2) 51 [vP (13, 0), vI v] σ = rV σ' ∧ CG x ci W B (knw x.1 g.2.1) g.2.2.1 (v :: g.2.2.2) r (Int32.ofNat (pos vC x.1 g.2.1)) fu σ' := by
  have hb := c_base (X := X) (d := d) h
  obtain ⟨w, h1, h2, h3, h4, h5, h6, h7, ⟨a1, a2, a3, a4, a5⟩, ⟨b1, b2⟩, h10, h11⟩ := h
  rw [List.length_cons] at h4 a1 a2 h11
  have hh : hgt (g :: r) = hgt r + 24 + g.2.2.2.length := rfl
  rw [f_X3_leave, q_X3_leave_0, hb, bI_r]
  have e1 : (sI σ 13 0 8 (Int32.ofNat (hgt (g :: r)))).1 13 0 9 = Int32.ofNat (r.length + 1 + 1) := h4
  rw [e1, if_pos (by rw [show (0 : Int32) = Int32.ofNat 0 from rfl, i_lt (by omega) (by omega)]; omega), i_pred]
  have e2 : (sI (sI σ 13 0 8 (Int32.ofNat (hgt (g :: r)))) 13 0 9 (Int32.ofNat (r.length + 1))).1 13 0 9 = Int32.ofNat (r.length + 1) := by rw [gI, if_pos ⟨rfl, rfl, rfl⟩]
  rw [e2, ix_nat (by omega) (by omega), q_X3_leave_38]
  have e4 : (sI (sI (sI σ 13 0 8 (Int32.ofNat (hgt (g :: r)))) 13 0 9 (Int32.ofNat (r.length + 1))) 13 0 10 ((sI (sI σ 13 0 8 (Int32.ofNat (hgt (g :: r)))) 13 0 9 (Int32.ofNat (r.length + 1))).1 44 0 (r.length + 1))).1 13 0 9 = Int32.ofNat (r.length + 1) := e2
  rw [e4, if_pos (by rw [show (0 : Int32) = Int32.ofNat 0 from rfl, i_lt (by omega) (by omega)]; omega)]
  have e3 : (sI (sI σ 13 0 8 (Int32.ofNat (hgt (g :: r)))) 13 0 9 (Int32.ofNat (r.length + 1))).1 44 0 (r.length + 1) = Int32.ofNat (pos vC x.1 g.2.1) := a2 g r rfl
  rw [e3]
  have hg : CG x ci W B (knw x.1 g.2.1) g.2.2.1 g.2.2.2 r (Int32.ofNat (pos vC x.1 g.2.1)) fu (sI (sI (sI σ 13 0 8 (Int32.ofNat (hgt (g :: r)))) 13 0 9 (Int32.ofNat (r.length + 1))) 13 0 10 (Int32.ofNat (pos vC x.1 g.2.1))) := by
    refine ⟨w, h1, h2, ?_, ?_, ?_, h6, h7, CF1_s (σ := σ) (fun j hj => rfl) (fun j hj => ⟨rfl, rfl⟩) b1, CF_s (σ := σ) r (fun j hj => rfl) (fun j hj => ⟨rfl, rfl⟩) b2, by omega, by omega⟩
    · rw [gI, if_neg (by omega), gI, if_neg (by omega), gI, if_pos ⟨rfl, rfl, rfl⟩, hh]
    · rw [gI, if_neg (by omega), gI, if_pos ⟨rfl, rfl, rfl⟩]
    · rw [gI, if_pos ⟨rfl, rfl, rfl⟩]
  obtain ⟨σ', f1, f2⟩ := c_push (X := X) (d := d) (c := v) hg (by omega)
  rw [f1, bV_r]
  exact ⟨σ', rfl, f2⟩
end
