section
/-! LAYER 2, FIRST WORDS: depth, reading behind writing -/
variable {X : Nat × (Nat → Int32)} {w : Bool}
theorem sm_bV_C {a b : sm_R} {hx : sm_S → sm_R} {k : sm_S → sm_R} {r : sm_O × sm_S} (h : ∀ r, a = some r → b = some r) (q : sm_bV a hx k = some r) : sm_bV b hx k = some r := by
  rcases a with _ | x
  · cases q
  · rw [h x rfl]; exact q
theorem sm_bI_C {a b : sm_R} {hx : sm_S → sm_R} {k : Int32 → sm_S → sm_R} {r : sm_O × sm_S} (h : ∀ r, a = some r → b = some r) (q : sm_bI a hx k = some r) : sm_bI b hx k = some r := by
  rcases a with _ | x
  · cases q
  · rw [h x rfl]; exact q
theorem sm_bL_C {a b : sm_R} {hx : sm_S → sm_R} {k : Int64 → sm_S → sm_R} {r : sm_O × sm_S} (h : ∀ r, a = some r → b = some r) (q : sm_bL a hx k = some r) : sm_bL b hx k = some r := by
  rcases a with _ | x
  · cases q
  · rw [h x rfl]; exact q
theorem sm_bP_C {a b : sm_R} {hx : sm_S → sm_R} {k : Nat × Nat → sm_S → sm_R} {r : sm_O × sm_S} (h : ∀ r, a = some r → b = some r) (q : sm_bP a hx k = some r) : sm_bP b hx k = some r := by
  rcases a with _ | x
  · cases q
  · rw [h x rfl]; exact q
theorem sm_cl_C {C C' : sm_C} (hC : ∀ k As σ r, C k As σ = some r → C' k As σ = some r) {a : Nat × Nat × Nat × Nat} {hx : sm_S → sm_R} {S : List sm_V} {σ : sm_S} {nx : List sm_V → sm_S → sm_R} {r : sm_O × sm_S} (h : sm_cl C a hx S σ nx = some r) : sm_cl C' a hx S σ nx = some r := by
  obtain ⟨m, n, k, t⟩ := a
  unfold sm_cl at h ⊢
  dsimp only at h ⊢
  cases hs : sm_take n [] S with
  | none => rw [hs] at h; cases h
  | some q =>
    obtain ⟨As, rs⟩ := q
    rw [hs] at h
    dsimp only at h ⊢
    by_cases hc : sm_cat rs ≤ 8
    · rw [if_pos hc] at h ⊢
      revert h
      have key : ∀ q : sm_O × sm_S, (match k with
        | 0 => sm_bV (C m As σ) hx fun s => nx rs s
        | 1 => sm_bI (C m As σ) hx fun x s => nx (vI x :: rs) s
        | 2 => sm_bL (C m As σ) hx fun x s => nx (vL x :: rs) s
        | _ => sm_bP (C m As σ) hx fun x s => nx (vP x :: rs) s) = some q → (match k with
        | 0 => sm_bV (C' m As σ) hx fun s => nx rs s
        | 1 => sm_bI (C' m As σ) hx fun x s => nx (vI x :: rs) s
        | 2 => sm_bL (C' m As σ) hx fun x s => nx (vL x :: rs) s
        | _ => sm_bP (C' m As σ) hx fun x s => nx (vP x :: rs) s) = some q := by
        intro q hq
        rcases k with _ | _ | _ | k
        · exact sm_bV_C (hC m As σ) hq
        · exact sm_bI_C (hC m As σ) hq
        · exact sm_bL_C (hC m As σ) hq
        · exact sm_bP_C (hC m As σ) hq
      intro h
      rcases t with _ | t
      · exact key r h
      · rcases As with _ | ⟨v, As⟩
        · cases h
        · rcases v with x | x | x | x
          · cases h
          · cases h
          · dsimp only at h ⊢
            by_cases hx1 : x.1 = t + 1
            · rw [if_pos hx1] at h ⊢; exact key r h
            · rw [if_neg hx1] at h; cases h
          · cases h
    · rw [if_neg hc] at h; cases h
theorem sm_I_C {Z : sm_T} {C C' : sm_C} (hC : ∀ k As σ r, C k As σ = some r → C' k As σ = some r) {ins : Instr} {a : Nat × Nat × Nat × Nat} {pc : Nat} {nx : List sm_V → List sm_V → sm_S → sm_R} {jp : Nat → List sm_V → List sm_V → sm_S → sm_R} {hx : sm_S → sm_R} {L S : List sm_V} {σ : sm_S} {r : sm_O × sm_S}
    (h : sm_I Z w C ins a pc nx jp hx L S σ = some r) : sm_I Z w C' ins a pc nx jp hx L S σ = some r := by
  cases ins
  case invokevirtual i => exact sm_cl_C hC h
  case invokestatic i =>
    obtain ⟨a1, a2, a3, a4⟩ := a
    by_cases h1 : a4 = 1000
    · subst h1; exact h
    · have e : ∀ C : sm_C, sm_I Z w C (.invokestatic i) (a1, a2, a3, a4) pc nx jp hx L S σ = sm_cl C (a1, a2, a3, a4) hx S σ fun r s => nx L r s := fun C => by simp only [sm_I]
      rw [e] at h ⊢
      exact sm_cl_C hC h
  case invokespecial i =>
    obtain ⟨a1, a2, a3, a4⟩ := a
    by_cases h1 : a4 = 1001
    · subst h1; exact h
    · by_cases h2 : a4 = 1002
      · subst h2; exact h
      · have e : ∀ C : sm_C, sm_I Z w C (.invokespecial i) (a1, a2, a3, a4) pc nx jp hx L S σ = sm_cl C (a1, a2, a3, a4) hx S σ fun r s => nx L r s := fun C => by simp only [sm_I]
        rw [e] at h ⊢
        exact sm_cl_C hC h
  all_goals exact h
theorem sm_run_C {Z : sm_T} {P : sm_P} {m : Nat} {C C' : sm_C} (hC : ∀ k As σ r, C k As σ = some r → C' k As σ = some r) : ∀ (n : Nat) {pc : Nat} {L S : List sm_V} {σ : sm_S} {r : sm_O × sm_S}, sm_run Z P w C m n pc L S σ = some r → sm_run Z P w C' m n pc L S σ = some r
  | 0, _, _, _, _, _, h => by cases h
  | n + 1, pc, L, S, σ, r, h => by
    rw [sm_run] at h ⊢
    cases hf : sm_find pc (P.1 m) with
    | none => rw [hf] at h; cases h
    | some e =>
      rw [hf] at h
      have h1 := sm_at_mono (g' := sm_run Z P w C' m n) (fun _ _ _ _ _ q => sm_run_C hC n q) h
      unfold sm_at at h1 ⊢
      exact sm_I_C hC h1
theorem sm_callM_up : ∀ (d k : Nat) (As : List sm_V) (σ : sm_S) (r : sm_O × sm_S), sm_callM X w d k As σ = some r → sm_callM X w (d + 1) k As σ = some r
  | 0, _, _, _, _, h => by cases h
  | d + 1, k, As, σ, r, h => by
    obtain ⟨h1, h2, h3⟩ := sm_callM_s h
    show (if k < 308 ∧ (sm_lay As).length ≤ sm_nl k then sm_go (sm_ZZ X) sm_PP w (sm_callM X w (d + 1)) k 0 (sm_ent k As) [] σ else none) = some r
    rw [if_pos ⟨h1, h2⟩]
    obtain ⟨n, h3⟩ := sm_go_some.mp h3
    exact sm_go_some.mpr ⟨n, sm_run_C (sm_callM_up d) n h3⟩
/-- more depth does no harm -/
theorem sm_callM_le {d e : Nat} (h : d ≤ e) {k : Nat} {As : List sm_V} {σ : sm_S} {r : sm_O × sm_S} (q : sm_callM X w d k As σ = some r) : sm_callM X w e k As σ = some r := by
  obtain ⟨n, rfl⟩ := Nat.exists_eq_add_of_le h
  induction n with
  | zero => exact q
  | succ n ih => exact sm_callM_up _ _ _ _ _ (ih (Nat.le_add_right _ _))
theorem sm_callM_eq {d k : Nat} {As L : List sm_V} {σ : sm_S} (h1 : k < 308) (h2 : (sm_lay As).length ≤ sm_nl k) (hL : sm_ent k As = L) : sm_callM X w (d + 1) k As σ = sm_go (sm_ZZ X) sm_PP w (sm_callM X w d) k 0 L [] σ := by
  subst hL
  show (if k < 308 ∧ (sm_lay As).length ≤ sm_nl k then sm_go (sm_ZZ X) sm_PP w (sm_callM X w d) k 0 (sm_ent k As) [] σ else none) = _
  exact if_pos ⟨h1, h2⟩
/-! reading behind writing -/
theorem gI {σ : sm_S} {t i k : Nat} {v : Int32} {t' i' k' : Nat} : (sI σ t i k v).1 t' i' k' = if t' = t ∧ i' = i ∧ k' = k then v else σ.1 t' i' k' := rfl
theorem gIL {σ : sm_S} {t i k : Nat} {v : Int32} : (sI σ t i k v).2 = σ.2 := rfl
theorem gL {σ : sm_S} {t i k : Nat} {v : Int64} {t' i' k' : Nat} : (sL σ t i k v).2.1 t' i' k' = if t' = t ∧ i' = i ∧ k' = k then v else σ.2.1 t' i' k' := rfl
theorem gLI {σ : sm_S} {t i k : Nat} {v : Int64} : (sL σ t i k v).1 = σ.1 := rfl
theorem gLR {σ : sm_S} {t i k : Nat} {v : Int64} : (sL σ t i k v).2.2 = σ.2.2 := rfl
theorem gR {σ : sm_S} {t i k : Nat} {v : Nat × Nat} {t' i' k' : Nat} : (sR σ t i k v).2.2.1 t' i' k' = if t' = t ∧ i' = i ∧ k' = k then v else σ.2.2.1 t' i' k' := rfl
theorem gRI {σ : sm_S} {t i k : Nat} {v : Nat × Nat} : (sR σ t i k v).1 = σ.1 := rfl
theorem gRL {σ : sm_S} {t i k : Nat} {v : Nat × Nat} : (sR σ t i k v).2.1 = σ.2.1 := rfl
theorem gRN {σ : sm_S} {t i k : Nat} {v : Nat × Nat} : (sR σ t i k v).2.2.2 = σ.2.2.2 := rfl
/-- an index that fits -/
theorem sm_ix_ok {x : Int32} {n : Nat} {k : Nat → sm_R} (h : ¬ x < 0) (h2 : x.toNatClampNeg < n) : sm_ix x n k = k x.toNatClampNeg := if_neg (fun q => q.elim h (fun q => by omega))
end
