section
/-- a row of code: its place, the instruction, its length, what the tables say of it, which locals are of use (at a place where walks are cut) -/
abbrev sm_E : Type := Nat × Instr × Nat × (Nat × Nat × Nat × Nat) × Option (List Nat)
/-- a claim's code: rows by method; locals by method; handlers -/
abbrev sm_P : Type := (Nat → List sm_E) × (Nat → Nat) × (Nat → Nat → Option Nat)
def sm_find (pc : Nat) : List sm_E → Option sm_E
  | [] => none
  | e :: r => bif e.1 == pc then some e else sm_find pc r
def sm_lv (e : sm_E) (L : List sm_V) : List sm_V := match e.2.2.2.2 with
  | none => L
  | some l => sm_mask 0 l L
def sm_hx (P : sm_P) (m pc : Nat) (go : Nat → List sm_V → List sm_V → sm_S → sm_R) (L : List sm_V) (s : sm_S) : sm_R := match P.2.2 m pc with
  | none => some (none, s)
  | some h => go h L [vP (24, 0)] s
def sm_at (Z : sm_T) (P : sm_P) (w : Bool) (C : sm_C) (m : Nat) (e : sm_E) (go : Nat → List sm_V → List sm_V → sm_S → sm_R) (L S : List sm_V) (σ : sm_S) : sm_R :=
  sm_I Z w C e.2.1 e.2.2.2.1 e.1 (go (e.1 + e.2.2.1)) go (sm_hx P m e.1 go (sm_lv e L)) (sm_lv e L) S σ
def sm_run (Z : sm_T) (P : sm_P) (w : Bool) (C : sm_C) (m : Nat) : Nat → Nat → List sm_V → List sm_V → sm_S → sm_R
  | 0, _, _, _, _ => none
  | n + 1, pc, L, S, σ => match sm_find pc (P.1 m) with
    | none => none
    | some e => sm_at Z P w C m e (sm_run Z P w C m n) L S σ
end
section
theorem sm_p1_s (S : List sm_V) : (∀ k, sm_p1 S k = none) ∨ ∃ x r, S = vI x :: r := by
  rcases S with _ | ⟨v, r⟩
  · exact Or.inl fun _ => rfl
  · rcases v with x | x | x | x
    · exact Or.inr ⟨x, r, rfl⟩
    all_goals exact Or.inl fun _ => rfl
theorem sm_q1_s (S : List sm_V) : (∀ k, sm_q1 S k = none) ∨ ∃ x r, S = vL x :: r := by
  rcases S with _ | ⟨v, r⟩
  · exact Or.inl fun _ => rfl
  · rcases v with x | x | x | x
    · exact Or.inl fun _ => rfl
    · exact Or.inr ⟨x, r, rfl⟩
    all_goals exact Or.inl fun _ => rfl
theorem sm_r1_s (S : List sm_V) : (∀ k, sm_r1 S k = none) ∨ ∃ x r, S = vP x :: r := by
  rcases S with _ | ⟨v, r⟩
  · exact Or.inl fun _ => rfl
  · rcases v with x | x | x | x
    · exact Or.inl fun _ => rfl
    · exact Or.inl fun _ => rfl
    · exact Or.inr ⟨x, r, rfl⟩
    · exact Or.inl fun _ => rfl
theorem sm_p2_s (S : List sm_V) : (∀ k, sm_p2 S k = none) ∨ ∃ x y r, S = vI y :: vI x :: r := by
  rcases S with _ | ⟨v, _ | ⟨u, r⟩⟩
  · exact Or.inl fun _ => rfl
  · rcases v with x | x | x | x <;> exact Or.inl fun _ => rfl
  · rcases v with x | x | x | x <;> rcases u with y | y | y | y
    · exact Or.inr ⟨y, x, r, rfl⟩
    all_goals exact Or.inl fun _ => rfl
theorem sm_q2_s (S : List sm_V) : (∀ k, sm_q2 S k = none) ∨ ∃ x y r, S = vL y :: vL x :: r := by
  rcases S with _ | ⟨v, _ | ⟨u, r⟩⟩
  · exact Or.inl fun _ => rfl
  · rcases v with x | x | x | x <;> exact Or.inl fun _ => rfl
  · rcases v with x | x | x | x <;> rcases u with y | y | y | y
    all_goals first | exact Or.inl fun _ => rfl | exact Or.inr ⟨y, x, r, rfl⟩
theorem sm_r2_s (S : List sm_V) : (∀ k, sm_r2 S k = none) ∨ ∃ x y r, S = vP y :: vP x :: r := by
  rcases S with _ | ⟨v, _ | ⟨u, r⟩⟩
  · exact Or.inl fun _ => rfl
  · rcases v with x | x | x | x <;> exact Or.inl fun _ => rfl
  · rcases v with x | x | x | x <;> rcases u with y | y | y | y
    all_goals first | exact Or.inl fun _ => rfl | exact Or.inr ⟨y, x, r, rfl⟩
theorem sm_a0_s (S : List sm_V) : (∀ k, sm_a0 S k = none) ∨ ∃ j q r, S = vI j :: vP q :: r := by
  rcases S with _ | ⟨v, _ | ⟨u, r⟩⟩
  · exact Or.inl fun _ => rfl
  · rcases v with x | x | x | x <;> exact Or.inl fun _ => rfl
  · rcases v with x | x | x | x <;> rcases u with y | y | y | y
    all_goals first | exact Or.inl fun _ => rfl | exact Or.inr ⟨x, y, r, rfl⟩
theorem sm_aI_s (S : List sm_V) : (∀ k, sm_aI S k = none) ∨ ∃ x j q r, S = vI x :: vI j :: vP q :: r := by
  rcases S with _ | ⟨v, _ | ⟨u, _ | ⟨z, r⟩⟩⟩
  · exact Or.inl fun _ => rfl
  · rcases v with x | x | x | x <;> exact Or.inl fun _ => rfl
  · rcases v with x | x | x | x <;> rcases u with y | y | y | y <;> exact Or.inl fun _ => rfl
  · rcases v with x | x | x | x <;> rcases u with y | y | y | y <;> rcases z with z | z | z | z
    all_goals first | exact Or.inl fun _ => rfl | exact Or.inr ⟨x, y, z, r, rfl⟩
theorem sm_aL_s (S : List sm_V) : (∀ k, sm_aL S k = none) ∨ ∃ x j q r, S = vL x :: vI j :: vP q :: r := by
  rcases S with _ | ⟨v, _ | ⟨u, _ | ⟨z, r⟩⟩⟩
  · exact Or.inl fun _ => rfl
  · rcases v with x | x | x | x <;> exact Or.inl fun _ => rfl
  · rcases v with x | x | x | x <;> rcases u with y | y | y | y <;> exact Or.inl fun _ => rfl
  · rcases v with x | x | x | x <;> rcases u with y | y | y | y <;> rcases z with z | z | z | z
    all_goals first | exact Or.inl fun _ => rfl | exact Or.inr ⟨x, y, z, r, rfl⟩
theorem sm_aR_s (S : List sm_V) : (∀ k, sm_aR S k = none) ∨ ∃ x j q r, S = vP x :: vI j :: vP q :: r := by
  rcases S with _ | ⟨v, _ | ⟨u, _ | ⟨z, r⟩⟩⟩
  · exact Or.inl fun _ => rfl
  · rcases v with x | x | x | x <;> exact Or.inl fun _ => rfl
  · rcases v with x | x | x | x <;> rcases u with y | y | y | y <;> exact Or.inl fun _ => rfl
  · rcases v with x | x | x | x <;> rcases u with y | y | y | y <;> rcases z with z | z | z | z
    all_goals first | exact Or.inl fun _ => rfl | exact Or.inr ⟨x, y, z, r, rfl⟩
end
