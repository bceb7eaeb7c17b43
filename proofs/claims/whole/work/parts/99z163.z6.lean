section
/-! THE CLASS's MACHINE STANDS WHERE THE PURE MACHINE STANDS -/
variable {X : Nat × (Nat → Int32)} {d : Nat} {s σ σ' : sm_S} {W W' : zW} {B : Nat × Nat} {v n i k f m j p ci b : Nat} {c t y nx : Int32} {x : zTx} {K K' : List (Nat × Int32)} {nm : Nat → Int32} {S : List Int32} {r : List zFr} {fu : Nat} {l : List zI}
def hgt : List zFr → Nat
  | [] => 0
  | f :: r => hgt r + 24 + f.2.2.2.length
/-- what is known at an item -/
def knw (l : List zI) (pc : Nat) : List (Nat × Int32) := ((l[pc]?).map (fun e => (i_g e).2.1)).getD []
def OpsC (b : Nat) (S : List Int32) (σ : sm_S) : Prop := ∀ (i : Nat) (c : Int32), S[i]? = some c → σ.1 42 0 (b + 24 + (S.length - 1 - i)) = c
def NmC (b : Nat) (K : List (Nat × Int32)) (nm : Nat → Int32) (σ : sm_S) : Prop := ∀ y ∈ K, σ.1 42 0 (b + y.1) = nm y.1
def CF1 (l : List zI) (K : List (Nat × Int32)) (nm : Nat → Int32) (S : List Int32) (r : List zFr) (σ : sm_S) : Prop := σ.1 43 0 r.length = Int32.ofNat (hgt r) ∧ (∀ g r', r = g :: r' → σ.1 44 0 r.length = Int32.ofNat (pos vC l g.2.1)) ∧ NmC (hgt r) K nm σ ∧ OpsC (hgt r) S σ ∧ ∀ y ∈ K, y.1 < 24
def CF (l : List zI) (σ : sm_S) : List zFr → Prop
  | [] => True
  | f :: r => CF1 l (knw l f.2.1) f.2.2.1 f.2.2.2 r σ ∧ CF l σ r
def CS (x : zTx) (ci : Nat) (K : List (Nat × Int32)) (nm : Nat → Int32) (S : List Int32) (r : List zFr) (nx : Int32) (fu : Nat) (σ : sm_S) : Prop :=
  CTx x ci σ ∧ σ.2.2.1 13 0 7 = (10, ci) ∧ σ.1 13 0 8 = Int32.ofNat (hgt r + 24 + S.length) ∧ σ.1 13 0 9 = Int32.ofNat (r.length + 1) ∧ σ.1 13 0 10 = nx ∧ σ.1 13 0 11 = Int32.ofNat fu ∧ σ.1 13 0 12 = 10 ∧ CF1 x.1 K nm S r σ ∧ CF x.1 σ r ∧ hgt r + 24 + S.length ≤ 1560 ∧ r.length ≤ 14
def CG (x : zTx) (ci : Nat) (W : zW) (B : Nat × Nat) (K : List (Nat × Int32)) (nm : Nat → Int32) (S : List Int32) (r : List zFr) (nx : Int32) (fu : Nat) (σ : sm_S) : Prop := CW W B σ ∧ CS x ci K nm S r nx fu σ
theorem OpsC_s (hs : ∀ j, j < b + 24 + S.length → σ'.1 42 0 j = σ.1 42 0 j) (h : OpsC b S σ) : OpsC b S σ' := fun i c hi => by
  have := (List.getElem?_eq_some_iff.mp hi).1
  rw [hs _ (by omega)]; exact h i c hi
theorem NmC_s (hs : ∀ j, j < b + 24 → σ'.1 42 0 j = σ.1 42 0 j) (hk : ∀ y ∈ K, y.1 < 24) (h : NmC b K nm σ) : NmC b K nm σ' := fun y hy => by
  have := hk y hy
  rw [hs _ (by omega)]; exact h y hy
theorem CF1_s (h42 : ∀ j, j < hgt r + 24 + S.length → σ'.1 42 0 j = σ.1 42 0 j) (h43 : ∀ j, j < r.length + 1 → σ'.1 43 0 j = σ.1 43 0 j ∧ σ'.1 44 0 j = σ.1 44 0 j) (h : CF1 l K nm S r σ) : CF1 l K nm S r σ' := by
  obtain ⟨a1, a2, a3, a4, a5⟩ := h
  exact ⟨by rw [(h43 _ (by omega)).1]; exact a1, fun g r' hr => by rw [(h43 _ (by omega)).2]; exact a2 g r' hr, NmC_s (fun j hj => h42 j (by omega)) a5 a3, OpsC_s h42 a4, a5⟩
theorem CF_s : ∀ (F : List zFr), (∀ j, j < hgt F → σ'.1 42 0 j = σ.1 42 0 j) → (∀ j, j < F.length → σ'.1 43 0 j = σ.1 43 0 j ∧ σ'.1 44 0 j = σ.1 44 0 j) → CF l σ F → CF l σ' F
  | [], _, _, _ => trivial
  | f :: r, h42, h43, ⟨a, b⟩ => ⟨CF1_s h42 h43 a, CF_s r (fun j hj => h42 j (by show j < hgt r + 24 + _; omega)) (fun j hj => h43 j (by show j < r.length + 1; omega)) b⟩
theorem CF1_k (hk : ∀ y ∈ K', y ∈ K) (h : CF1 l K nm S r σ) : CF1 l K' nm S r σ := ⟨h.1, h.2.1, fun y hy => h.2.2.1 y (hk y hy), h.2.2.2.1, fun y hy => h.2.2.2.2 y (hk y hy)⟩
theorem CG_k (hk : ∀ y ∈ K', y ∈ K) (h : CG x ci W B K nm S r nx fu σ) : CG x ci W B K' nm S r nx fu σ := by
  obtain ⟨w, h1, h2, h3, h4, h5, h6, h7, h8, h9⟩ := h
  exact ⟨w, h1, h2, h3, h4, h5, h6, h7, CF1_k hk h8, h9⟩
theorem hgt_len : ∀ (F : List zFr), 24 * F.length ≤ hgt F
  | [] => Nat.zero_le _
  | f :: r => by have := hgt_len r; show 24 * (r.length + 1) ≤ hgt r + 24 + _; omega
theorem c_push (h : CG x ci W B K nm S r nx fu σ) (hl : hgt r + 24 + S.length < 1560) : ∃ σ', sm_callM X true (d + 1) 45 [vP (13, 0), vI c] σ = rV σ' ∧ CG x ci W B K nm (c :: S) r nx fu σ' := by
  obtain ⟨w, h1, h2, h3, h4, h5, h6, h7, ⟨a1, a2, a3, a4, a5⟩, h9, h10, h11⟩ := h
  rw [f_X3_push, q_X3_push_0, h3, if_neg (i_nn (by omega)), show (1560 : Int32) = Int32.ofNat 1560 from rfl, if_pos (by rw [i_lt (by omega) (by omega)]; exact hl), ix_nat (by omega) (by omega)]
  have e1 : (sI σ 42 0 (hgt r + 24 + S.length) c).1 13 0 8 = Int32.ofNat (hgt r + 24 + S.length) := h3
  rw [e1, i_s]
  refine ⟨_, rfl, w, h1, h2, ?_, h4, h5, h6, h7, ⟨a1, a2, fun y hy => ?_, fun i e hi => ?_, a5⟩, CF_s (σ := σ) r (fun j hj => ?_) (fun j hj => ⟨rfl, rfl⟩) h9, ?_, h11⟩
  · rw [gI, if_pos ⟨rfl, rfl, rfl⟩]; rfl
  · have := a5 y hy
    rw [gI, if_neg (by omega), gI, if_neg (by omega)]; exact a3 y hy
  · rw [gI, if_neg (by omega), gI]
    cases i with
    | zero =>
      rw [if_pos ⟨rfl, rfl, by rw [List.length_cons]; omega⟩]
      exact Option.some.inj hi
    | succ i =>
      have hi : S[i]? = some e := hi
      have := (List.getElem?_eq_some_iff.mp hi).1
      rw [List.length_cons, if_neg (by omega), show S.length + 1 - 1 - (i + 1) = S.length - 1 - i by omega]
      exact a4 i e hi
  · rw [gI, if_neg (by omega), gI, if_neg (by omega)]
  · rw [List.length_cons]; omega
theorem c_pop (h : CG x ci W B K nm (c :: S) r nx fu σ) : ∃ σ', sm_callM X true (d + 1) 46 [vP (13, 0)] σ = rI c σ' ∧ CG x ci W B K nm S r nx fu σ' := by
  obtain ⟨w, h1, h2, h3, h4, h5, h6, h7, ⟨a1, a2, a3, a4, a5⟩, h9, h10, h11⟩ := h
  rw [List.length_cons] at h3 h10
  rw [f_X3_pop, q_X3_pop_0, h3, show (1560 : Int32) = Int32.ofNat 1560 from rfl, if_pos (by rw [show (0 : Int32) = Int32.ofNat 0 from rfl, i_lt (by omega) (by omega)]; omega), if_neg (by rw [i_lt (by omega) (by omega)]; omega)]
  rw [show hgt r + 24 + (S.length + 1) = hgt r + 24 + S.length + 1 from rfl, i_pred]
  have e1 : (sI σ 13 0 8 (Int32.ofNat (hgt r + 24 + S.length))).1 13 0 8 = Int32.ofNat (hgt r + 24 + S.length) := by rw [gI, if_pos ⟨rfl, rfl, rfl⟩]
  rw [e1, ix_nat (by omega) (by omega)]
  have e2 : (sI σ 13 0 8 (Int32.ofNat (hgt r + 24 + S.length))).1 42 0 (hgt r + 24 + S.length) = c := by
    have := a4 0 c rfl
    rw [List.length_cons, show S.length + 1 - 1 - 0 = S.length by omega] at this
    exact this
  rw [e2]
  refine ⟨_, rfl, w, h1, h2, e1, h4, h5, h6, h7, ⟨a1, a2, a3, fun i e hi => ?_, a5⟩, CF_s (σ := σ) r (fun j hj => rfl) (fun j hj => ⟨rfl, rfl⟩) h9, by omega, h11⟩
  have := a4 (i + 1) e hi
  rw [List.length_cons, show S.length + 1 - 1 - (i + 1) = S.length - 1 - i by omega] at this
  exact this
theorem c_base (h : CG x ci W B K nm S r nx fu σ) : sm_callM X true (d + 1) 47 [vP (13, 0)] σ = rI (Int32.ofNat (hgt r)) σ := by
  obtain ⟨w, h1, h2, h3, h4, h5, h6, h7, ⟨a1, a2, a3, a4, a5⟩, h9, h10, h11⟩ := h
  rw [f_X3_base, q_X3_base_0, h4, show (15 : Int32) = Int32.ofNat 15 from rfl, if_pos (by rw [show (0 : Int32) = Int32.ofNat 0 from rfl, i_lt (by omega) (by omega)]; omega), if_neg (by rw [i_lt (by omega) (by omega)]; omega), i_pred, ix_nat (by omega) (by omega), a1]
theorem c_nameValue {z : Nat × Int32} (h : CG x ci W B K nm S r nx fu σ) (hz : z ∈ K) : sm_callM X true (d + 2) 48 [vP (13, 0), vI (Int32.ofNat z.1)] σ = rI (nm z.1) σ := by
  have hb := c_base (X := X) (d := d) h
  obtain ⟨w, h1, h2, h3, h4, h5, h6, h7, ⟨a1, a2, a3, a4, a5⟩, h9, h10, h11⟩ := h
  have := a5 z hz
  rw [f_X3_nameValue, q_X3_nameValue_0, hb, bI_r, i_add, if_neg (i_nn (by omega)), show (1560 : Int32) = Int32.ofNat 1560 from rfl, if_pos (by rw [i_lt (by omega) (by omega)]; omega), ix_nat (by omega) (by omega), a3 z hz]
theorem c_setName (h : CG x ci W B K nm S r nx fu σ) (hn : n < 24) : ∃ σ', sm_callM X true (d + 2) 49 [vP (13, 0), vI (Int32.ofNat n), vI c] σ = rV σ' ∧ CG x ci W B (gSet n t K) (fset nm n c) S r nx fu σ' := by
  have hb := c_base (X := X) (d := d) h
  obtain ⟨w, h1, h2, h3, h4, h5, h6, h7, ⟨a1, a2, a3, a4, a5⟩, h9, h10, h11⟩ := h
  rw [f_X3_setName, q_X3_setName_0, hb, bI_r, i_add, if_neg (i_nn (by omega)), show (1560 : Int32) = Int32.ofNat 1560 from rfl, if_pos (by rw [i_lt (by omega) (by omega)]; omega), ix_nat (by omega) (by omega)]
  refine ⟨_, rfl, w, h1, h2, h3, h4, h5, h6, h7, ⟨a1, a2, fun y hy => ?_, fun i e hi => ?_, fun y hy => ?_⟩, CF_s (σ := σ) r (fun j hj => ?_) (fun j hj => ⟨rfl, rfl⟩) h9, h10, h11⟩
  · unfold fset
    rcases List.mem_cons.mp hy with z | z
    · rw [z, gI, if_pos ⟨rfl, rfl, rfl⟩, if_pos rfl]
    · obtain ⟨z1, z2⟩ := List.mem_filter.mp z
      have z2 : y.1 ≠ n := by simpa using z2
      rw [gI, if_neg (by omega), if_neg z2]; exact a3 y z1
  · rw [gI, if_neg (by omega)]; exact a4 i e hi
  · rcases List.mem_cons.mp hy with z | z
    · rw [z]; exact hn
    · exact a5 y (List.mem_filter.mp z).1
  · rw [gI, if_neg (by omega)]
theorem c_end (h : CG x ci W B K nm S r nx fu σ) : sm_callM X true (d + 1) 52 [vP (13, 0), vI c] σ = rV (sI (sI σ 13 0 12 c) 13 0 13 (nx - 1)) := by
  rw [f_X3_end, q_X3_end_0, gI, if_neg (by omega), h.2.2.2.2.2.1]
/-! the text that is done -/
theorem c_isIns (h : CTx x ci σ) (hk : k < pos vC x.1 x.1.length) (hl : x.1.length ≤ 800) : sm_callM X true (d + 1) 18 [vP (10, ci), vI (Int32.ofNat k)] σ = rI 1 σ := by
  have := pos_le (v := vC) (l := x.1) (k := x.1.length)
  rw [f_X0_isInstruction, q_X0_isInstruction_0, if_neg (i_nn (by omega)), h.1.1, if_pos (by rw [i_lt (by omega) (by omega)]; exact hk)]
variable {e : zI}
theorem c_op (h : CTx x ci σ) (hl : x.1.length ≤ 800) (he : x.1[k]? = some e) (hv : vC e.1 = true) : sm_callM X true (d + 2) 19 [vP (10, ci), vI (Int32.ofNat (pos vC x.1 k))] σ = rI (Int32.ofNat (cOp e.1)) σ ∧ sm_callM X true (d + 2) 20 [vP (10, ci), vI (Int32.ofNat (pos vC x.1 k))] σ = rI (cArg x.1 e) σ ∧ sm_callM X true (d + 2) 21 [vP (10, ci), vI (Int32.ofNat (pos vC x.1 k))] σ = rI e.2.2.2.1 σ := by
  have hk := (List.getElem?_eq_some_iff.mp he).1
  have h1 := pos_lt (v := vC) he hv hk
  have h2 := pos_le (v := vC) (l := x.1) (k := x.1.length)
  obtain ⟨c1, c2, c3, c4⟩ := h.1.2.1 k e he hv
  have hi := c_isIns (X := X) (d := d) h h1 hl
  refine ⟨?_, ?_, ?_⟩
  · rw [f_X0_op, q_X0_op_0, hi, bI_r, if_neg (by decide), ix_nat (by omega) (by omega), c1]
  · rw [f_X0_arg, q_X0_arg_0, hi, bI_r, if_neg (by decide), ix_nat (by omega) (by omega), c2]
  · rw [f_X0_tokenPlace, q_X0_tokenPlace_0, hi, bI_r, if_neg (by decide), ix_nat (by omega) (by omega), c3]
/-- the catch of an item -/
def catP (l : List zI) (e : zI) : Int32 := match i_h e with
  | [] => -1
  | j :: _ => Int32.ofNat (pos vC l ((l[j]?).map (fun e => e.2.2.1) |>.getD 0))
theorem c_catchOf (hx : WTx x) (h : CTx x ci σ) (he : x.1[k]? = some e) (hv : vC e.1 = true) : sm_callM X true (d + 2) 22 [vP (10, ci), vI (Int32.ofNat (pos vC x.1 k))] σ = rI (catP x.1 e) σ := by
  have hl := hx.2.2.2.1
  have hk := (List.getElem?_eq_some_iff.mp he).1
  have h1 := pos_lt (v := vC) he hv hk
  have h2 := pos_le (v := vC) (l := x.1) (k := x.1.length)
  obtain ⟨c1, c2, c3, c4⟩ := h.1.2.1 k e he hv
  rw [f_X0_catchOf, q_X0_catchOf_0, c_isIns (X := X) h h1 hl, bI_r, if_neg (by decide), ix_nat (by omega) (by omega), c4, q_X0_catchOf_18]
  unfold catP ctr
  cases hH : i_h e with
  | nil => exact if_pos (show (-1 : Int32) < 0 by decide)
  | cons j H =>
    obtain ⟨⟨-, -, hh, -, -⟩, -⟩ := hx.1 _ e he
    obtain ⟨e1, g1, g2, g3, g4, g5⟩ := hh j H hH
    obtain ⟨-, hjk⟩ := hx.1 j e1 g1
    have hjk := hjk (by simp)
    obtain ⟨op, arg, tgt, pl, ty, gh⟩ := e1
    have g2 : op = 33 := g2
    subst g2
    obtain ⟨hj1, -⟩ := hjk
    have hj1 : x.2.1[pos vT x.1 j]? = some tgt := hj1
    have hlt := (List.getElem?_eq_some_iff.mp hj1).1
    have hct : x.2.1.length = pos vT x.1 x.1.length := h.1.2.2.2.2.2.1
    have h3 : pos vT x.1 j < pos vT x.1 x.1.length := by rw [← hct]; exact hlt
    have h100 : x.2.1.length < 100 := hx.2.2.2.2.2.1
    dsimp only
    rw [if_neg (i_nn (by omega)), h.1.2.2.1, if_pos (by rw [i_lt (by omega) (by omega)]; exact hlt), ix_nat (by omega) (by omega), h.1.2.2.2.1 _ _ hj1, g1]
    rfl
end
