section
/-! THE CLASS's RUN: it begins -/
variable {X : Nat × (Nat → Int32)} {d : Nat} {s σ σ' τ : sm_S} {W W' : zW} {B : Nat × Nat} {i k m j ci q pc q0 tgt n : Nat} {arg ty pl c nx a b : Int32} {x : zTx} {nm : Nat → Int32} {ops S : List Int32} {r F : List zFr} {fu : Nat} {g : zG} {K : List (Nat × Int32)} {e : zI} {f : zFr} {p : zP}
/-- the first names of a run -/
def nm0 (a b : Int32) : Nat → Int32 := fun i => if i = 0 then a else b
theorem c_push0 (h8 : σ.1 13 0 8 = Int32.ofNat j) (hj : j < 1560) : sm_callM X true (d + 1) 45 [vP (13, 0), vI c] σ = rV (sI (sI σ 42 0 j c) 13 0 8 (Int32.ofNat (j + 1))) := by
  rw [f_X3_push, q_X3_push_0, h8, if_neg (i_nn (by omega)), show (1560 : Int32) = Int32.ofNat 1560 from rfl, if_pos (by rw [i_lt (by omega) (by omega)]; exact hj), ix_nat (by omega) (by omega)]
  have e1 : (sI σ 42 0 j c).1 13 0 8 = Int32.ofNat j := h8
  rw [e1, i_s]
theorem c_enter0 (hx : WTx x) (w : CW W B τ) (h1 : CTx x ci τ) (h2 : τ.2.2.1 13 0 7 = (10, ci)) (hp : x.2.2[k]? = some p) (h8 : τ.1 13 0 8 = Int32.ofNat p.2.2.1.length) (h9 : τ.1 13 0 9 = Int32.ofNat 0) (h11 : τ.1 13 0 11 = Int32.ofNat fu) (h12 : τ.1 13 0 12 = 10) (hn : ∀ y, y < p.2.2.1.length → τ.1 42 0 y = nm y) :
    ∃ σ', sm_callM X true (d + 3) 50 [vP (13, 0), vI (Int32.ofNat (5 + k))] τ = rV σ' ∧ CMn x ci B W [(k, p.2.2.2, nm, [])] fu σ' := by
  obtain ⟨p1, p2, p3⟩ := c_procOf (X := X) (d := d) h1 hp
  have h4p : p.2.2.1.length ≤ 4 := (h1.2.2.2 k p hp).2.2.1
  have e0 : Int32.ofNat p.2.2.1.length - Int32.ofNat p.2.2.1.length = Int32.ofNat 0 := i_sub (p := p.2.2.1.length) (m := 0)
  rw [f_X3_enter, q_X3_enter_0, h9, if_pos (by decide), h2, if_pos rfl, p1, bI_r, h8, e0, ix_nat (by omega) (by omega)]
  have e1 : (sI τ 43 0 0 (Int32.ofNat 0)).1 13 0 9 = Int32.ofNat 0 := h9
  rw [e1, ix_nat (by omega) (by omega)]
  generalize hb : (sI τ 43 0 0 (Int32.ofNat 0)).1 13 0 10 = bk
  have e3 : (sI (sI τ 43 0 0 (Int32.ofNat 0)) 44 0 0 bk).1 13 0 9 = Int32.ofNat 0 := h9
  rw [e3, ix_nat (by omega) (by omega)]
  have e4 : (sI (sI τ 43 0 0 (Int32.ofNat 0)) 44 0 0 bk).1 43 0 0 = Int32.ofNat 0 := rfl
  rw [e4, show Int32.ofNat 0 + 24 = Int32.ofNat 24 from rfl]
  have e5 : (sI (sI (sI τ 43 0 0 (Int32.ofNat 0)) 44 0 0 bk) 13 0 8 (Int32.ofNat 24)).1 13 0 9 = Int32.ofNat 0 := h9
  rw [e5, show Int32.ofNat 0 + 1 = Int32.ofNat 1 from rfl]
  generalize hτ : sI (sI (sI (sI τ 43 0 0 (Int32.ofNat 0)) 44 0 0 bk) 13 0 8 (Int32.ofNat 24)) 13 0 9 (Int32.ofNat 1) = τ'
  have t7 : τ'.2.2.1 13 0 7 = (10, ci) := by rw [← hτ]; exact h2
  have tx : CTx x ci τ' := by rw [← hτ]; exact h1
  obtain ⟨-, -, p3'⟩ := c_procOf (X := X) (d := d) tx hp
  rw [t7, if_pos rfl, p3', bI_r]
  subst hτ
  refine ⟨_, rfl, (k, p.2.2.2, nm, []), [], rfl, w, h1, h2, rfl, rfl, rfl, h11, h12, ⟨rfl, (fun g r' hg => by cases hg), fun y hy => ?_, (fun i c hi => by cases hi), fun y hy => ?_⟩, trivial, by show 0 + 24 + 0 ≤ 1560; omega, by decide⟩
  · have hy' := kPar_mem (knw_at (hx.2.2.1 k p hp) y hy)
    have hlt := (List.getElem?_eq_some_iff.mp hy').1
    show τ.1 42 0 (0 + y.1) = nm y.1
    rw [Nat.zero_add]; exact hn y.1 hlt
  · have := kPar_lt y (knw_at (hx.2.2.1 k p hp) y hy)
    omega
theorem c_start1 (hx : WTx x) (hC : CW W B σ) (hT : CTx x ci σ) (hp : x.2.2[k]? = some p) (h2 : p.2.2.1.length ≤ 2) : ∃ τ d4, sm_callM X true (d + 11) 42 [vP (13, 0), vP (10, ci), vI (Int32.ofNat (5 + k)), vI a, vI b, vI (Int32.ofNat fu)] σ = lpC X (d + 10) (Int32.ofNat (5 + k)) 0 vU vU d4 vU vU vU τ ∧ CMn x ci B W [(k, p.2.2.2, nm0 a b, [])] fu τ := by
  rw [f_X3_start, q_X3_start_0]
  have w0 : CW W B (sI (sI (sI (sI (sI (sI (sR σ 13 0 7 (10, ci)) 13 0 8 0) 13 0 9 0) 13 0 11 (Int32.ofNat fu)) 13 0 12 10) 13 0 13 (-1)) 13 0 14 0) := hC
  have x0 : CTx x ci (sI (sI (sI (sI (sI (sI (sR σ 13 0 7 (10, ci)) 13 0 8 0) 13 0 9 0) 13 0 11 (Int32.ofNat fu)) 13 0 12 10) 13 0 13 (-1)) 13 0 14 0) := hT
  have a7 : (sI (sI (sI (sI (sI (sI (sR σ 13 0 7 (10, ci)) 13 0 8 0) 13 0 9 0) 13 0 11 (Int32.ofNat fu)) 13 0 12 10) 13 0 13 (-1)) 13 0 14 0).2.2.1 13 0 7 = (10, ci) := rfl
  have a8 : (sI (sI (sI (sI (sI (sI (sR σ 13 0 7 (10, ci)) 13 0 8 0) 13 0 9 0) 13 0 11 (Int32.ofNat fu)) 13 0 12 10) 13 0 13 (-1)) 13 0 14 0).1 13 0 8 = Int32.ofNat 0 := rfl
  have a9 : (sI (sI (sI (sI (sI (sI (sR σ 13 0 7 (10, ci)) 13 0 8 0) 13 0 9 0) 13 0 11 (Int32.ofNat fu)) 13 0 12 10) 13 0 13 (-1)) 13 0 14 0).1 13 0 9 = Int32.ofNat 0 := rfl
  have a11 : (sI (sI (sI (sI (sI (sI (sR σ 13 0 7 (10, ci)) 13 0 8 0) 13 0 9 0) 13 0 11 (Int32.ofNat fu)) 13 0 12 10) 13 0 13 (-1)) 13 0 14 0).1 13 0 11 = Int32.ofNat fu := rfl
  have a12 : (sI (sI (sI (sI (sI (sI (sR σ 13 0 7 (10, ci)) 13 0 8 0) 13 0 9 0) 13 0 11 (Int32.ofNat fu)) 13 0 12 10) 13 0 13 (-1)) 13 0 14 0).1 13 0 12 = 10 := rfl
  generalize sI (sI (sI (sI (sI (sI (sR σ 13 0 7 (10, ci)) 13 0 8 0) 13 0 9 0) 13 0 11 (Int32.ofNat fu)) 13 0 12 10) 13 0 13 (-1)) 13 0 14 0 = τ at w0 x0 a7 a8 a9 a11 a12 ⊢
  obtain ⟨p1, -, -⟩ := c_procOf (X := X) (d := d + 8) x0 hp
  have p1 : sm_callM X true (d + 10) 8 [vP (10, ci), vI (Int32.ofNat (5 + k))] τ = rI (Int32.ofNat p.2.2.1.length) τ := p1
  rw [a7, if_pos rfl, p1, bI_r]
  have hn : p.2.2.1.length = 0 ∨ p.2.2.1.length = 1 ∨ p.2.2.1.length = 2 := by omega
  rcases hn with hn | hn | hn
  · obtain ⟨σ', e1, e2⟩ := c_enter0 (X := X) (d := d + 7) (nm := nm0 a b) hx w0 x0 a7 hp (by rw [hn]; exact a8) a9 a11 a12 (fun y hy => by omega)
    have e1 : sm_callM X true (d + 10) 50 [vP (13, 0), vI (Int32.ofNat (5 + k))] τ = rV σ' := e1
    rw [hn, if_neg (by decide), q_X3_start_53, a7, if_pos rfl, p1, bI_r, hn, if_neg (by decide), e1, bV_r]
    exact ⟨σ', _, rfl, e2⟩
  · have e0 := c_push0 (X := X) (d := d + 9) (c := a) a8 (by decide)
    have e0 : sm_callM X true (d + 10) 45 [vP (13, 0), vI a] τ = rV (sI (sI τ 42 0 0 a) 13 0 8 (Int32.ofNat 1)) := e0
    obtain ⟨p1', -, -⟩ := c_procOf (X := X) (d := d + 8) (σ := sI (sI τ 42 0 0 a) 13 0 8 (Int32.ofNat 1)) x0 hp
    have p1' : sm_callM X true (d + 10) 8 [vP (10, ci), vI (Int32.ofNat (5 + k))] (sI (sI τ 42 0 0 a) 13 0 8 (Int32.ofNat 1)) = rI (Int32.ofNat p.2.2.1.length) (sI (sI τ 42 0 0 a) 13 0 8 (Int32.ofNat 1)) := p1'
    obtain ⟨σ', e1, e2⟩ := c_enter0 (X := X) (d := d + 7) (nm := nm0 a b) (τ := sI (sI τ 42 0 0 a) 13 0 8 (Int32.ofNat 1)) (fu := fu) hx w0 x0 a7 hp (by rw [hn]; rfl) a9 a11 a12 (fun y hy => by
      have hy0 : y = 0 := by omega
      subst hy0; rfl)
    have e1 : sm_callM X true (d + 10) 50 [vP (13, 0), vI (Int32.ofNat (5 + k))] (sI (sI τ 42 0 0 a) 13 0 8 (Int32.ofNat 1)) = rV σ' := e1
    have a7' : (sI (sI τ 42 0 0 a) 13 0 8 (Int32.ofNat 1)).2.2.1 13 0 7 = (10, ci) := a7
    rw [hn, if_pos (by decide), e0, bV_r, q_X3_start_53, a7', if_pos rfl, p1', bI_r, hn, if_neg (by decide), e1, bV_r]
    exact ⟨σ', _, rfl, e2⟩
  · have e0 := c_push0 (X := X) (d := d + 9) (c := a) a8 (by decide)
    have e0 : sm_callM X true (d + 10) 45 [vP (13, 0), vI a] τ = rV (sI (sI τ 42 0 0 a) 13 0 8 (Int32.ofNat 1)) := e0
    obtain ⟨p1', -, -⟩ := c_procOf (X := X) (d := d + 8) (σ := sI (sI τ 42 0 0 a) 13 0 8 (Int32.ofNat 1)) x0 hp
    have p1' : sm_callM X true (d + 10) 8 [vP (10, ci), vI (Int32.ofNat (5 + k))] (sI (sI τ 42 0 0 a) 13 0 8 (Int32.ofNat 1)) = rI (Int32.ofNat p.2.2.1.length) (sI (sI τ 42 0 0 a) 13 0 8 (Int32.ofNat 1)) := p1'
    have f0 := c_push0 (X := X) (d := d + 9) (c := b) (j := 1) (σ := sI (sI τ 42 0 0 a) 13 0 8 (Int32.ofNat 1)) rfl (by decide)
    have f0 : sm_callM X true (d + 10) 45 [vP (13, 0), vI b] (sI (sI τ 42 0 0 a) 13 0 8 (Int32.ofNat 1)) = rV (sI (sI (sI (sI τ 42 0 0 a) 13 0 8 (Int32.ofNat 1)) 42 0 1 b) 13 0 8 (Int32.ofNat 2)) := f0
    obtain ⟨σ', e1, e2⟩ := c_enter0 (X := X) (d := d + 7) (nm := nm0 a b) (τ := sI (sI (sI (sI τ 42 0 0 a) 13 0 8 (Int32.ofNat 1)) 42 0 1 b) 13 0 8 (Int32.ofNat 2)) (fu := fu) hx w0 x0 a7 hp (by rw [hn]; rfl) a9 a11 a12 (fun y hy => by
      have hy0 : y = 0 ∨ y = 1 := by omega
      rcases hy0 with rfl | rfl <;> rfl)
    have e1 : sm_callM X true (d + 10) 50 [vP (13, 0), vI (Int32.ofNat (5 + k))] (sI (sI (sI (sI τ 42 0 0 a) 13 0 8 (Int32.ofNat 1)) 42 0 1 b) 13 0 8 (Int32.ofNat 2)) = rV σ' := e1
    have a7' : (sI (sI τ 42 0 0 a) 13 0 8 (Int32.ofNat 1)).2.2.1 13 0 7 = (10, ci) := a7
    rw [hn, if_pos (by decide), e0, bV_r, q_X3_start_53, a7', if_pos rfl, p1', bI_r, hn, if_pos (by decide), f0, bV_r, e1, bV_r]
    exact ⟨σ', _, rfl, e2⟩
end
