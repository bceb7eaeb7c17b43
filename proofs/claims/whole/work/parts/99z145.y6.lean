section
/-! A FRAME COMES TO AN ITEM -/
variable {W W' : zW} {t u c v : Int32} {S ops : List Int32} {x : zTx} {f : zFr} {r F' : List zFr} {j q : Nat} {g : zG} {nm : Nat → Int32}
theorem Lands_0 (h : Lands x.1 none j g) : ∃ e, x.1[j]? = some e ∧ e.1 ≠ 2 ∧ gFits g (i_g e) := by
  rcases h with h | ⟨-, g', h, -⟩
  · exact h
  · cases h
theorem FsOk_land (hL : Lands x.1 none j g) (h1 : VTs W g.1 ops) (h2 : ∀ y ∈ g.2.1, VT W y.2 (nm y.1)) (h3 : ∃ p, x.2.2[q]? = some p ∧ p.2.1 = g.2.2.1) (h4 : FsOk x W (some g.2.2.1) r) : FsOk x W none ((q, j, nm, ops) :: r) := by
  obtain ⟨e, e1, e2, e3, e4, e5, e6⟩ := Lands_0 hL
  exact ⟨e, g.1, e1, e2, e3, h1, fun y hy => h2 y (e4 y hy), by rw [e5]; exact h3, by rw [e5]; exact h4⟩
/-- a value comes back -/
theorem FsOk_back (h : FsOk x W (some t) (f :: r)) (hv : VT W t v) : FsOk x W none ((f.1, f.2.1, f.2.2.1, v :: f.2.2.2) :: r) := by
  obtain ⟨e, S, h1, h2, ⟨h3, -⟩, h4, h5, h6, h7⟩ := h
  exact ⟨e, t :: S, h1, h2, h3, VTs_cons h4 hv, h5, h6, h7⟩
/-- a fault is caught -/
theorem FsOk_catch {e e' : zI} {H : List Nat} (hx : WTx x) (hi : x.1[f.2.1]? = some e) (hH : i_h e = j :: H) (hj : x.1[j]? = some e') (h5 : ∀ y ∈ (i_g e).2.1, VT W y.2 (f.2.2.1 y.1)) (h6 : ∃ p, x.2.2[f.1]? = some p ∧ p.2.1 = (i_g e).2.2.1) (h7 : FsOk x W (some (i_g e).2.2.1) r) : FsOk x W none ((f.1, e'.2.2.1 + 1, fset f.2.2.1 e'.2.1.toNatClampNeg v, []) :: r) := by
  obtain ⟨⟨-, -, hh, -, -⟩, -⟩ := hx.1 _ e hi
  obtain ⟨e1, g1, g2, g3, g4, g5⟩ := hh j H hH
  rw [hj] at g1
  cases g1
  obtain ⟨-, hjk⟩ := hx.1 j e' hj
  have hjk := hjk (by simp)
  obtain ⟨op, arg, tgt, pl, ty, gh⟩ := e'
  have g2 : op = 33 := g2
  subst g2
  obtain ⟨-, e2, k1, k2, k3, k4, k5, k6, k7⟩ := hjk
  obtain ⟨⟨-, -, -, tk, fl⟩, -⟩ := hx.1 _ e2 k1
  obtain ⟨op2, arg2, tgt2, pl2, ty2, gh2⟩ := e2
  have k2 : op2 = 2 := k2
  subst k2
  have k3 : arg2 = arg := k3
  subst k3
  have fl := fl rfl
  have fl : Lands x.1 none (tgt + 1) (gh2.1, gSet arg2.toNatClampNeg 36 gh2.2.1, gh2.2.2) := fl
  have tk : gh2.1 = [] := tk.1
  have k6 : gh2.2.2.1 = gh.2.2.1 := k6
  have g5 : gh.2.2.1 = (i_g e).2.2.1 := g5
  refine FsOk_land fl (by show VTs W gh2.1 []; rw [tk]; exact VTs_nil) (fun y hy => ?_) ?_ ?_
  · show VT W y.2 (fset f.2.2.1 arg2.toNatClampNeg v y.1)
    have hy : y ∈ (arg2.toNatClampNeg, (36 : Int32)) :: gh2.2.1.filter (fun x => x.1 != arg2.toNatClampNeg) := hy
    rcases List.mem_cons.mp hy with z | z
    · rw [z]; exact Or.inl rfl
    · obtain ⟨z1, z2⟩ := List.mem_filter.mp z
      have z2 : y.1 ≠ arg2.toNatClampNeg := by simpa using z2
      unfold fset
      rw [if_neg z2]
      exact h5 y (g4 y (k5 y z1))
  · show ∃ p, x.2.2[f.1]? = some p ∧ p.2.1 = gh2.2.2.1
    rw [k6, g5]; exact h6
  · show FsOk x W (some gh2.2.2.1) r
    rw [k6, g5]; exact h7
theorem FsOk_unw (hx : WTx x) : ∀ (F F' : List zFr) (s : Nat) (o : Option Int32), ((o = none ∧ s = 0) ∨ (o ≠ none ∧ s = 1)) → FsOk x W o F → unw x.1 v s F = some F' → FsOk x W none F' ∧ F'.length ≤ F.length
  | [], _, _, _, _, _, h => by cases h
  | f :: r, F', s, o, ho, ⟨e, S, h1, h2, h3, h4, h5, h6, h7⟩, h => by
    rw [unw] at h
    have key : (x.1[f.2.1 - s]?).map i_h = some (i_h e) := by
      rcases ho with ⟨rfl, rfl⟩ | ⟨ho, rfl⟩
      · rw [Nat.sub_zero, h1]; rfl
      · cases o with
        | none => exact absurd rfl ho
        | some ty =>
          obtain ⟨-, k, e', k1, k2, -, k4⟩ := h3
          rw [k1, Nat.add_sub_cancel, k2, ← k4]; rfl
    rw [key] at h
    cases hH : i_h e with
    | nil =>
      rw [hH] at h
      obtain ⟨r1, r2⟩ := FsOk_unw hx r F' 1 (some (i_g e).2.2.1) (Or.inr ⟨by simp, rfl⟩) h7 h
      exact ⟨r1, Nat.le_trans r2 (by simp)⟩
    | cons j H =>
      rw [hH] at h
      have h : (match x.1[j]? with
        | some e => some ((f.1, e.2.2.1 + 1, fset f.2.2.1 e.2.1.toNatClampNeg v, []) :: r)
        | none => none) = some F' := h
      cases hj : x.1[j]? with
      | none => rw [hj] at h; cases h
      | some e' =>
        rw [hj] at h
        have h := Option.some.inj h
        subst h
        exact ⟨FsOk_catch hx h1 hH hj h5 h6 h7, by simp⟩
end
