section
/-! THE CLASS's MACHINE: a fault -/
variable {X : Nat × (Nat → Int32)} {d : Nat} {s σ σ' : sm_S} {W W' : zW} {B : Nat × Nat} {n i k m j ci b q pc q0 : Nat} {c t y nx v why : Int32} {x : zTx} {K K' : List (Nat × Int32)} {nm : Nat → Int32} {S : List Int32} {r F : List zFr} {fu : Nat} {l : List zI} {e : zI} {f : zFr}
/-- a catch is about to begin -/
def Cgt (x : zTx) (ci : Nat) (B : Nat × Nat) (W : zW) (F : List zFr) (fu : Nat) (σ : sm_S) : Prop := ∃ (f : zFr) (r : List zFr) (j : Nat) (e : zI) (v : Int32) (K : List (Nat × Int32)), F = (f.1, e.2.2.1 + 1, fset f.2.2.1 e.2.1.toNatClampNeg v, []) :: r ∧ x.1[j]? = some e ∧ e.1 = 33 ∧ CG x ci W B K f.2.2.1 [v] r (Int32.ofNat (pos vC x.1 e.2.2.1)) fu σ ∧ ∀ y ∈ (i_g e).2.1, y ∈ K
/-- it stands before an item -/
def CMn (x : zTx) (ci : Nat) (B : Nat × Nat) (W : zW) (F : List zFr) (fu : Nat) (σ : sm_S) : Prop := ∃ (f : zFr) (r : List zFr), F = f :: r ∧ CG x ci W B (knw x.1 f.2.1) f.2.2.1 f.2.2.2 r (Int32.ofNat (pos vC x.1 f.2.1)) fu σ
def CO (x : zTx) (ci : Nat) (B : Nat × Nat) (z : zMR) (σ : sm_S) : Prop := match z with
  | .inl y => CMn x ci B y.1 y.2.1 y.2.2 σ ∨ Cgt x ci B y.1 y.2.1 y.2.2 σ
  | .inr z => CE x ci B z σ
theorem CG_nx {nx' : Int32} (h : CG x ci W B K nm S r nx fu σ) : CG x ci W B K nm S r nx' fu (sI σ 13 0 10 nx') := by
  obtain ⟨w, h1, h2, h3, h4, h5, h6, h7, h8, h9, h10⟩ := h
  exact ⟨w, h1, h2, h3, h4, by rw [gI, if_pos ⟨rfl, rfl, rfl⟩], h6, h7, CF1_s (σ := σ) (fun j hj => rfl) (fun j hj => ⟨rfl, rfl⟩) h8, CF_s (σ := σ) r (fun j hj => rfl) (fun j hj => ⟨rfl, rfl⟩) h9, h10⟩
theorem CG_fu {fu' : Nat} (h : CG x ci W B K nm S r nx fu σ) : CG x ci W B K nm S r nx fu' (sI σ 13 0 11 (Int32.ofNat fu')) := by
  obtain ⟨w, h1, h2, h3, h4, h5, h6, h7, h8, h9, h10⟩ := h
  exact ⟨w, h1, h2, h3, h4, h5, by rw [gI, if_pos ⟨rfl, rfl, rfl⟩], h7, CF1_s (σ := σ) (fun j hj => rfl) (fun j hj => ⟨rfl, rfl⟩) h8, CF_s (σ := σ) r (fun j hj => rfl) (fun j hj => ⟨rfl, rfl⟩) h9, h10⟩
theorem CG_ops (h : CG x ci W B K nm S r nx fu σ) : CF1 x.1 K nm [] r σ := by
  obtain ⟨a1, a2, a3, a4, a5⟩ := h.2.2.2.2.2.2.2.2.1
  exact ⟨a1, a2, a3, (fun i c hi => by cases hi), a5⟩
theorem m1_ne {n : Nat} (h : n < 2 ^ 31) : Int32.ofNat n ≠ -1 := fun q => by
  have := i_nn h
  rw [q] at this
  exact this (by decide)
def CFh (l : List zI) (σ : sm_S) (F : List zFr) : Prop := match F with
  | [] => True
  | f :: r => CF1 l (knw l f.2.1) f.2.2.1 [] r σ ∧ CF l σ r ∧ hgt r + 24 < 1560 ∧ r.length ≤ 14
theorem CFh_of (h : CF l σ F) (hh : hgt F ≤ 1500) (hl : F.length ≤ 15) : CFh l σ F := by
  cases F with
  | nil => trivial
  | cons f r =>
    obtain ⟨⟨a1, a2, a3, a4, a5⟩, b⟩ := h
    have hh : hgt r + 24 + f.2.2.2.length ≤ 1500 := hh
    have hl : r.length + 1 ≤ 15 := hl
    exact ⟨⟨a1, a2, a3, (fun i c hi => by cases hi), a5⟩, b, by omega, by omega⟩
theorem knw_e (h : l[pc]? = some e) : knw l pc = (i_g e).2.1 := by unfold knw; rw [h]; rfl
theorem hgt_FsOk (hx : WTx x) : ∀ (F : List zFr) (o : Option Int32), FsOk x W o F → hgt F ≤ 104 * F.length
  | [], _, _ => Nat.zero_le _
  | f :: r, o, ⟨e, S, e1, e2, e3, e4, e5, e6, e7⟩ => by
    have := hgt_FsOk hx r _ e7
    obtain ⟨⟨b1, -⟩, -⟩ := hx.1 _ e e1
    have h4 := e4.1
    have : S.length ≤ 80 := by
      cases o with
      | none =>
        have e3 : (i_g e).1 = S := e3
        rw [e3] at b1; exact b1
      | some ty =>
        rw [e3.1, List.length_cons] at b1; omega
    show hgt r + 24 + f.2.2.2.length ≤ 104 * (r.length + 1)
    omega
theorem c_unw (hx : WTx x) (w : CW W B σ) (h1 : CTx x ci σ) (h2 : σ.2.2.1 13 0 7 = (10, ci)) (h5 : σ.1 13 0 10 = nx) (h6 : σ.1 13 0 11 = Int32.ofNat fu) (h7 : σ.1 13 0 12 = 10) {W0 : zW} :
    ∀ (F : List zFr) (s : Nat) (o : Option Int32) (a : Int32) (d5 : sm_V), ((o = none ∧ s = 0 ∧ ∀ f r e, F = f :: r → x.1[f.2.1]? = some e → vC e.1 = true) ∨ (o ≠ none ∧ s = 1)) → FsOk x W0 o F → CFh x.1 σ F → (∀ f r, F = f :: r → a = Int32.ofNat (pos vC x.1 (f.2.1 - s))) →
    ∃ σ', sm_go (sm_ZZ X) sm_PP true (sm_callM X true (d + 2)) 54 47 [vP (13, 0), vI why, vI v, vI a, vI (Int32.ofNat F.length - 1), d5] [] σ = rV σ' ∧ (match unw x.1 v s F with
      | none => σ' = sI (sI (sI σ 13 0 14 v) 13 0 12 why) 13 0 13 (nx - 1)
      | some F' => Cgt x ci B W F' fu σ')
  | [], s, o, a, d5, _, _, _, _ => by
    rw [q_X3_raiseWith_47, if_pos (by decide), f_X3_end, q_X3_end_0, bV_r]
    refine ⟨_, rfl, ?_⟩
    show _ = _
    rw [gI, if_neg (by omega), gI, if_neg (by omega), h5]
  | f :: r, s, o, a, d5, ho, ⟨e, S, e1, e2, e3, e4, e5, e6, e7⟩, hc, ha => by
    obtain ⟨hc1, hc2, hc3, hc4⟩ := hc
    have hl := hx.2.2.2.1
    have key : ∃ k e', f.2.1 - s = k ∧ x.1[k]? = some e' ∧ vC e'.1 = true ∧ i_h e' = i_h e := by
      rcases ho with ⟨rfl, rfl, hv⟩ | ⟨ho, rfl⟩
      · exact ⟨f.2.1, e, Nat.sub_zero _, e1, hv f r e rfl e1, rfl⟩
      · cases o with
        | none => exact absurd rfl ho
        | some ty =>
          obtain ⟨-, k, e', k1, k2, k3, k4⟩ := e3
          exact ⟨k, e', by omega, k2, by rw [k3]; rfl, k4⟩
    obtain ⟨k, e', k1, k2, k3, k4⟩ := key
    rw [q_X3_raiseWith_47, ha f r rfl, k1, show Int32.ofNat (f :: r).length - 1 = Int32.ofNat r.length from i_pred, if_neg (i_nn (by omega)), h2, if_pos rfl, c_catchOf hx h1 k2 k3, bI_r, unw, k1, k2]
    show ∃ σ', (if catP x.1 e' = -1 then _ else _) = rV σ' ∧ (match (match some (i_h e') with
      | some (j :: _) => match x.1[j]? with
        | some e => some ((f.1, e.2.2.1 + 1, fset f.2.2.1 e.2.1.toNatClampNeg v, []) :: r)
        | none => none
      | _ => unw x.1 v 1 r) with
      | none => σ' = sI (sI (sI σ 13 0 14 v) 13 0 12 why) 13 0 13 (nx - 1)
      | some F' => Cgt x ci B W F' fu σ')
    cases hH : i_h e' with
    | nil =>
      have hc0 : catP x.1 e' = -1 := by unfold catP; rw [hH]
      rw [if_pos hc0, ix_nat (by omega) (by omega), show Int32.ofNat r.length + -1 = Int32.ofNat r.length - 1 from (Int32.sub_eq_add_neg _ _).symm]
      have hhr := hgt_FsOk hx r _ e7
      refine c_unw hx w h1 h2 h5 h6 h7 r 1 (some (i_g e).2.2.1) _ _ (Or.inr ⟨by simp, rfl⟩) e7 (CFh_of hc2 (by omega) (by omega)) (fun g r' hr => ?_)
      subst hr
      obtain ⟨eg, Sg, g1, g2, ⟨-, kg, eg', g3, g4, g5, -⟩, -⟩ := e7
      rw [hc1.2.1 g r' rfl, g3, pos_s (v := vC) g4, if_pos (by rw [g5]; rfl), i_pred, Nat.add_sub_cancel]
    | cons j H =>
      rw [hH] at k4
      obtain ⟨⟨-, -, hh, -, -⟩, -⟩ := hx.1 _ e e1
      obtain ⟨ej, g1, g2, g3, g4, g5⟩ := hh j H k4.symm
      have hcp : catP x.1 e' = Int32.ofNat (pos vC x.1 ej.2.2.1) := by
        unfold catP; rw [hH]; dsimp only; rw [g1]; rfl
      have hpl := pos_len (v := vC) (l := x.1) (k := ej.2.2.1)
      have hpl2 := pos_le (v := vC) (l := x.1) (k := x.1.length)
      dsimp only
      rw [hcp, if_neg (m1_ne (by omega)), g1, ix_nat (by omega) (by omega)]
      have b1 : (sI σ 13 0 9 (Int32.ofNat r.length + 1)).1 43 0 r.length = Int32.ofNat (hgt r) := hc1.1
      rw [b1, show (24 : Int32) = Int32.ofNat 24 from rfl, i_add, i_s]
      have hg : CG x ci W B (knw x.1 f.2.1) f.2.2.1 [] r nx fu (sI (sI σ 13 0 9 (Int32.ofNat (r.length + 1))) 13 0 8 (Int32.ofNat (hgt r + 24))) := by
        refine ⟨w, h1, h2, ?_, ?_, h5, h6, h7, CF1_s (σ := σ) (fun j hj => rfl) (fun j hj => ⟨rfl, rfl⟩) hc1, CF_s (σ := σ) r (fun j hj => rfl) (fun j hj => ⟨rfl, rfl⟩) hc2, by show hgt r + 24 + 0 ≤ 1560; omega, hc4⟩
        · rw [gI, if_pos ⟨rfl, rfl, rfl⟩]; rfl
        · rw [gI, if_neg (by omega), gI, if_pos ⟨rfl, rfl, rfl⟩]
      obtain ⟨σ1, f1, f2⟩ := c_push (X := X) (d := d + 1) (c := v) hg (by show hgt r + 24 + 0 < 1560; omega)
      rw [f1, bV_r]
      refine ⟨_, rfl, f, r, j, ej, v, knw x.1 f.2.1, rfl, g1, g2, CG_nx f2, fun y hy => ?_⟩
      rw [knw_e e1]; exact g4 y hy
theorem CW_f (h : CW W B σ) : CW (wF W (w_f W + 1)) B (sI σ 13 0 17 (Int32.ofNat (w_f W + 1))) := by
  obtain ⟨a, b, t, e, ⟨o1, o2, o3, o4⟩, z⟩ := h
  exact ⟨a, b, t, e, ⟨o1, by rw [gI, if_pos ⟨rfl, rfl, rfl⟩]; rfl, o3, o4⟩, z⟩
theorem c_endE (h : CG x ci W B K nm S r (Int32.ofNat (pos vC x.1 pc + 1)) fu σ) (hi : x.1[pc]? = some e) (hv : vC e.1 = true) (h0 : why ≠ 0) (h6 : why ≠ 6) : ∃ σ', sm_callM X true (d + 1) 52 [vP (13, 0), vI why] σ = rV σ' ∧ CE x ci B (why, v, e.2.2.2.1, W, fu) σ' := by
  rw [c_end h, i_pred]
  refine ⟨_, rfl, h.1, h.2.1, h.2.2.1, ?_, h.2.2.2.2.2.2.1, fun z => absurd z (fun z => z.elim h0 h6), fun _ => ⟨pc, e, hi, hv, ?_, rfl⟩, fun z => absurd z h0⟩
  · rw [gI, if_neg (by omega), gI, if_pos ⟨rfl, rfl, rfl⟩]
  · rw [gI, if_pos ⟨rfl, rfl, rfl⟩]
theorem c_raise (hm : MC x W q0 f r e) (h : CG x ci W B (knw x.1 f.2.1) f.2.2.1 S r (Int32.ofNat (pos vC x.1 f.2.1 + 1)) fu σ) (hv : vC e.1 = true) (h0 : why ≠ 0) : ∃ σ', sm_callM X true (d + 3) 54 [vP (13, 0), vI why, vI v] σ = rV σ' ∧ CO x ci B (raiseM x.1 W (f :: r) fu e why v) σ' := by
  obtain ⟨hx, hW, hF, hi, hl, hb⟩ := hm
  have hfa := hW.1.2.2.2.2.1
  have hl' : r.length + 1 ≤ 15 := hl
  rw [f_X3_raiseWith, q_X3_raiseWith_0, h.1.2.2.2.2.1.2.1, show (600 : Int32) = Int32.ofNat 600 from rfl]
  unfold raiseM
  by_cases z : w_f W = 600
  · rw [if_neg (by rw [i_lt (by omega) (by omega)]; omega), if_pos z]
    obtain ⟨σ', e1, e2⟩ := c_endE (X := X) (d := d + 1) (v := 0) (why := 8) h hi hv (by decide) (by decide)
    rw [e1, bV_r]
    exact ⟨σ', rfl, e2⟩
  · rw [if_pos (by rw [i_lt (by omega) (by omega)]; omega), if_neg z, i_s]
    have hg : CG x ci (wF W (w_f W + 1)) B (knw x.1 f.2.1) f.2.2.1 S r (Int32.ofNat (pos vC x.1 f.2.1 + 1)) fu (sI σ 13 0 17 (Int32.ofNat (w_f W + 1))) := by
      obtain ⟨w, h1, h2, h3, h4, h5, h6, h7, h8, h9, h10⟩ := h
      exact ⟨CW_f w, h1, h2, h3, h4, h5, h6, h7, CF1_s (σ := σ) (fun j hj => rfl) (fun j hj => ⟨rfl, rfl⟩) h8, CF_s (σ := σ) r (fun j hj => rfl) (fun j hj => ⟨rfl, rfl⟩) h9, h10⟩
    generalize sI σ 13 0 17 (Int32.ofNat (w_f W + 1)) = τ at hg ⊢
    obtain ⟨w, h1, h2, h3, h4, h5, h6, h7, h8, h9, h10, h11⟩ := id hg
    rw [h4, h5, j_min, bI_r, i_pred, show (15 : Int32) = Int32.ofNat 15 from rfl, if_neg (by rw [i_lt (by omega) (by omega)]; omega)]
    have hh := hgt_FsOk hx _ _ (cur_ok hF hi).2.2.2
    obtain ⟨σ', e1, e2⟩ := c_unw (X := X) (d := d) (W0 := W) (why := why) (v := v) hx w h1 h2 h5 h6 h7 (f :: r) 0 none (Int32.ofNat (pos vC x.1 f.2.1)) vU (Or.inl ⟨rfl, rfl, fun f' r' e' hf he => by cases hf; rw [hi] at he; cases he; exact hv⟩) hF ⟨CG_ops hg, h9, by omega, h11⟩ (fun f' r' hf => by cases hf; rfl)
    refine ⟨σ', e1, ?_⟩
    cases hu : unw x.1 v 0 (f :: r) with
    | none =>
      rw [hu] at e2
      have e2 : σ' = sI (sI (sI τ 13 0 14 v) 13 0 12 why) 13 0 13 (Int32.ofNat (pos vC x.1 f.2.1 + 1) - 1) := e2
      rw [e2, i_pred]
      refine ⟨w, h1, h2, ?_, h6, fun _ => ?_, fun _ => ⟨f.2.1, e, hi, hv, ?_, rfl⟩, fun z => absurd z h0⟩
      · rw [gI, if_neg (by omega), gI, if_pos ⟨rfl, rfl, rfl⟩]
      · rw [gI, if_neg (by omega), gI, if_neg (by omega), gI, if_pos ⟨rfl, rfl, rfl⟩]
      · rw [gI, if_pos ⟨rfl, rfl, rfl⟩]
    | some F' =>
      rw [hu] at e2
      exact Or.inr e2
theorem c_raise1 (hm : MC x W q0 f r e) (h : CG x ci W B (knw x.1 f.2.1) f.2.2.1 S r (Int32.ofNat (pos vC x.1 f.2.1 + 1)) fu σ) (hv : vC e.1 = true) (h0 : why ≠ 0) : ∃ σ', sm_callM X true (d + 4) 53 [vP (13, 0), vI why] σ = rV σ' ∧ CO x ci B (raiseM x.1 W (f :: r) fu e why why) σ' := by
  obtain ⟨σ', e1, e2⟩ := c_raise (X := X) (d := d) (v := why) hm h hv h0
  rw [f_X3_raise, q_X3_raise_0, e1, bV_r]
  exact ⟨σ', rfl, e2⟩
end
