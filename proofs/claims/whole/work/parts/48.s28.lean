section
/-- what an instruction may do to the state by itself -/
def sm_wr (w : Bool) (ins : Instr) (a : Nat × Nat × Nat × Nat) (σ s : sm_S) : Prop := match ins with
  | .putfield _ => (∃ i x, s = sI σ a.1 i a.2.1 x ∧ (a.2.2.1 = 0 ∨ a.2.2.1 = 3)) ∨ (∃ i x, s = sL σ a.1 i a.2.1 x ∧ a.2.2.1 = 1) ∨ (∃ i x, s = sR σ a.1 i a.2.1 x ∧ (a.2.2.1 = 2 ∨ (w = false ∧ 4 ≤ a.2.2.1)))
  | .iastore => ∃ i z x, s = sI σ a.1 i z x
  | .bastore => ∃ i z x, s = sI σ a.1 i z x
  | .lastore => ∃ i z x, s = sL σ a.1 i z x
  | .aastore => ∃ i z x, s = sR σ a.1 i z x
  | .new _ => ∃ n m, s = sN σ a.1 n m ∧ (w = true → a.1 = 16 ∨ a.1 = 18 ∨ a.1 = 19)
  | .newarray _ => ∃ n m, s = sN σ a.1 n m
  | .anewarray _ => ∃ n m, s = sN σ a.1 n m
  | .invokestatic _ => a.2.2.2 = 1000 ∧ ∃ i n f, s = sC σ a.1 i 0 n f
  | _ => False
/-- whether an instruction calls a method of the claim -/
def sm_isC (ins : Instr) (a : Nat × Nat × Nat × Nat) : Prop := match ins with
  | .invokestatic _ => a.2.2.2 ≠ 1000
  | .invokevirtual _ => True
  | .invokespecial _ => a.2.2.2 ≠ 1001 ∧ a.2.2.2 ≠ 1002
  | _ => False
abbrev sm_lik (U : sm_S → Prop) (F : (List sm_V → List sm_V → sm_S → sm_R) → (Nat → List sm_V → List sm_V → sm_S → sm_R) → (sm_S → sm_R) → sm_R) : Prop :=
  (∃ r0, (∀ o s, r0 = some (o, s) → U s) ∧ ∀ nx jp hx, F nx jp hx = r0) ∨ (∃ L S s, U s ∧ ∀ nx jp hx, F nx jp hx = nx L S s) ∨ (∃ t L S s, U s ∧ ∀ nx jp hx, F nx jp hx = jp t L S s) ∨ (∃ s, U s ∧ ∀ nx jp hx, F nx jp hx = hx s)
variable {U : sm_S → Prop} {σ : sm_S}
theorem lik_n {F} (h : ∀ nx jp hx, F nx jp hx = none) : sm_lik U F := Or.inl ⟨none, fun _ _ q => (by cases q), h⟩
theorem lik_r {F} (r0 : sm_R) (h : ∀ nx jp hx, F nx jp hx = r0) (hm : ∀ o s, r0 = some (o, s) → U s) : sm_lik U F := Or.inl ⟨r0, hm, h⟩
theorem lik_x {F} (L S s) (h : ∀ nx jp hx, F nx jp hx = nx L S s) (hm : U s) : sm_lik U F := Or.inr (Or.inl ⟨L, S, s, hm, h⟩)
theorem lik_j {F} (t L S s) (h : ∀ nx jp hx, F nx jp hx = jp t L S s) (hm : U s) : sm_lik U F := Or.inr (Or.inr (Or.inl ⟨t, L, S, s, hm, h⟩))
theorem lik_h {F} (s) (h : ∀ nx jp hx, F nx jp hx = hx s) (hm : U s) : sm_lik U F := Or.inr (Or.inr (Or.inr ⟨s, hm, h⟩))
theorem lik_e {F G} (h : ∀ nx jp hx, F nx jp hx = G nx jp hx) (k : sm_lik U G) : sm_lik U F := by
  rcases k with ⟨r0, hm, k⟩ | ⟨L, S, s, hm, k⟩ | ⟨t, L, S, s, hm, k⟩ | ⟨s, hm, k⟩
  · exact Or.inl ⟨r0, hm, fun a b c => (h a b c).trans (k a b c)⟩
  · exact Or.inr (Or.inl ⟨L, S, s, hm, fun a b c => (h a b c).trans (k a b c)⟩)
  · exact Or.inr (Or.inr (Or.inl ⟨t, L, S, s, hm, fun a b c => (h a b c).trans (k a b c)⟩))
  · exact Or.inr (Or.inr (Or.inr ⟨s, hm, fun a b c => (h a b c).trans (k a b c)⟩))
theorem lik_if {c : Prop} [Decidable c] {F G} (h1 : c → sm_lik U F) (h2 : ¬ c → sm_lik U G) : sm_lik U (fun nx jp hx => if c then F nx jp hx else G nx jp hx) := by
  by_cases h : c
  · exact lik_e (fun _ _ _ => if_pos h) (h1 h)
  · exact lik_e (fun _ _ _ => if_neg h) (h2 h)
theorem lik_rq {q : Nat × Nat} {t : Nat} {F : Nat → _ → _ → _ → sm_R} (h : ∀ i, q = (t, i) → sm_lik U (F i)) : sm_lik U (fun nx jp hx => sm_rq q t fun i => F i nx jp hx) :=
  lik_if (fun e => h q.2 (by rw [← e])) (fun _ => lik_n fun _ _ _ => rfl)
theorem lik_ix {x : Int32} {n : Nat} {F : Nat → _ → _ → _ → sm_R} (h : ∀ i, sm_lik U (F i)) : sm_lik U (fun nx jp hx => sm_ix x n fun i => F i nx jp hx) :=
  lik_if (fun _ => lik_n fun _ _ _ => rfl) (fun _ => h _)
theorem lik_b {b : Bool} {F G} (h1 : b = true → sm_lik U F) (h2 : b = false → sm_lik U G) : sm_lik U (fun nx jp hx => bif b then F nx jp hx else G nx jp hx) := by
  cases b
  · exact h2 rfl
  · exact h1 rfl
theorem lik_sw (hU0 : U σ) {x : Int32} {d : Nat} {L S : List sm_V} : ∀ l : List (Int32 × Nat), sm_lik U (fun _ jp _ => sm_sw x (fun t => jp t L S σ) d l)
  | [] => lik_j d L S σ (fun _ _ _ => rfl) hU0
  | q :: r => lik_if (fun _ => lik_j q.2 L S σ (fun _ _ _ => rfl) hU0) (fun _ => lik_sw hU0 r)
theorem lik_ld {v : sm_V} {c : Nat} {F : sm_V → _ → _ → _ → sm_R} (h : ∀ u, sm_lik U (F u)) : sm_lik U (fun nx jp hx => sm_ld v (fun u => F u nx jp hx) c) := by
  rcases v with x | x | x | x <;> rcases c with _ | _ | _ | c <;> first | exact lik_n fun _ _ _ => rfl | exact h _
theorem lik_cl {C : sm_C} {a : Nat × Nat × Nat × Nat} (hC : ∀ As o t, C a.1 As σ = some (o, t) → U t) {L S : List sm_V} : sm_lik U (fun nx _ hx => sm_cl C a hx S σ fun r s => nx L r s) := by
  obtain ⟨m, n, k, t⟩ := a
  have hC2 : ∀ As o t', C m As σ = some (o, t') → U t' := hC
  clear hC
  unfold sm_cl
  dsimp only
  cases h : sm_take n [] S with
  | none => exact lik_n fun _ _ _ => rfl
  | some q =>
    obtain ⟨As, r⟩ := q
    dsimp only
    refine lik_if (fun _ => ?_) (fun _ => lik_n fun _ _ _ => rfl)
    have key : sm_lik U (fun nx _ hx => match k with
        | 0 => sm_bV (C m As σ) hx fun s => nx L r s
        | 1 => sm_bI (C m As σ) hx fun x s => nx L (vI x :: r) s
        | 2 => sm_bL (C m As σ) hx fun x s => nx L (vL x :: r) s
        | _ => sm_bP (C m As σ) hx fun x s => nx L (vP x :: r) s) := by
      rcases hc : C m As σ with _ | ⟨_ | _ | o, s⟩ <;> try have hmo : U s := hC2 _ _ _ hc
      · rcases k with _ | _ | _ | k <;> exact lik_n fun _ _ _ => rfl
      · rcases k with _ | _ | _ | k <;> exact lik_h s (fun _ _ _ => rfl) hmo
      · rcases k with _ | _ | _ | k <;> first | exact lik_n fun _ _ _ => rfl | exact lik_x _ _ _ (fun _ _ _ => rfl) hmo
      · rcases o with x | x | x | x <;> rcases k with _ | _ | _ | k <;> first | exact lik_n fun _ _ _ => rfl | exact lik_x _ _ _ (fun _ _ _ => rfl) hmo
    cases t with
    | zero => exact key
    | succ t =>
      rcases As with _ | ⟨v, As⟩
      · exact lik_n fun _ _ _ => rfl
      · rcases v with x | x | x | x
        · exact lik_n fun _ _ _ => rfl
        · exact lik_n fun _ _ _ => rfl
        · exact lik_if (fun _ => key) (fun _ => lik_n fun _ _ _ => rfl)
        · exact lik_n fun _ _ _ => rfl
theorem sm_rt_un (hU0 : U σ) (k : Nat) (x : Int32) : ∀ o s, sm_rt k x σ = some (o, s) → U s := by
  intro o s h
  unfold sm_rt at h
  split at h
  · cases h; exact hU0
  all_goals
    split at h
    · cases h; exact hU0
    · cases h
set_option maxHeartbeats 4000000 in
theorem sm_I_un (Z : sm_T) (w : Bool) (C : sm_C) (ins : Instr) (a : Nat × Nat × Nat × Nat) (hU0 : U σ) (hUw : ∀ s, sm_wr w ins a σ s → U s) (hC : sm_isC ins a → ∀ As o t, C a.1 As σ = some (o, t) → U t) (pc : Nat) (L S : List sm_V) : sm_lik U (fun nx jp hx => sm_I Z w C ins a pc nx jp hx L S σ) := by
  cases ins
  case invokevirtual i => exact lik_cl (hC trivial)
  case invokestatic i =>
    obtain ⟨a1, a2, a3, a4⟩ := a
    by_cases h : a4 = 1000
    · subst h
      rcases S with _ | ⟨v1, _ | ⟨v2, _ | ⟨v3, _ | ⟨v4, _ | ⟨v5, r⟩⟩⟩⟩⟩
      · exact lik_n fun _ _ _ => rfl
      · rcases v1 with x | x | x | x <;> exact lik_n fun _ _ _ => rfl
      · rcases v1 with x | x | x | x <;> rcases v2 with y | y | y | y <;> exact lik_n fun _ _ _ => rfl
      · rcases v1 with x | x | x | x <;> rcases v2 with y | y | y | y <;> rcases v3 with z | z | z | z <;> exact lik_n fun _ _ _ => rfl
      · rcases v1 with x | x | x | x <;> rcases v2 with y | y | y | y <;> rcases v3 with z | z | z | z <;> rcases v4 with u | u | u | u <;> exact lik_n fun _ _ _ => rfl
      · rcases v1 with x | x | x | x <;> rcases v2 with y | y | y | y <;> rcases v3 with z | z | z | z <;> rcases v4 with u | u | u | u <;> rcases v5 with t | t | t | t
        all_goals first
          | exact lik_n fun _ _ _ => rfl
          | exact lik_if (fun _ => lik_rq fun i _ => lik_x _ _ _ (fun _ _ _ => rfl) (by first | exact hU0 | exact hUw _ ⟨_, _, _, rfl⟩ | exact hUw _ ⟨_, _, rfl⟩ | exact hUw _ ⟨rfl, _, _, _, rfl⟩ | exact hUw _ (Or.inl ⟨_, _, rfl, by first | exact Or.inl rfl | exact Or.inr rfl⟩) | exact hUw _ (Or.inr (Or.inl ⟨_, _, rfl, rfl⟩)) | exact hUw _ (Or.inr (Or.inr ⟨_, _, rfl, by first | exact Or.inl rfl | exact Or.inr ⟨rfl, by dsimp only; omega⟩⟩)))) (fun _ => lik_n fun _ _ _ => rfl)
    · refine lik_e (G := fun nx _ hx => sm_cl C (a1, a2, a3, a4) hx S σ fun r s => nx L r s) (fun nx jp hx => ?_) (lik_cl (hC h))
      simp only [sm_I]
  case invokespecial i =>
    obtain ⟨a1, a2, a3, a4⟩ := a
    by_cases h : a4 = 1001
    · subst h
      rcases S with _ | ⟨v1, _ | ⟨v2, r⟩⟩
      · exact lik_n fun _ _ _ => rfl
      · rcases v1 with x | x | x | x <;> exact lik_n fun _ _ _ => rfl
      · rcases v1 with x | x | x | x <;> rcases v2 with y | y | y | y
        all_goals first
          | exact lik_n fun _ _ _ => rfl
          | exact lik_if (fun _ => lik_x _ _ _ (fun _ _ _ => rfl) (by first | exact hU0 | exact hUw _ ⟨_, _, _, rfl⟩ | exact hUw _ ⟨_, _, rfl⟩ | exact hUw _ ⟨rfl, _, _, _, rfl⟩ | exact hUw _ (Or.inl ⟨_, _, rfl, by first | exact Or.inl rfl | exact Or.inr rfl⟩) | exact hUw _ (Or.inr (Or.inl ⟨_, _, rfl, rfl⟩)) | exact hUw _ (Or.inr (Or.inr ⟨_, _, rfl, by first | exact Or.inl rfl | exact Or.inr ⟨rfl, by dsimp only; omega⟩⟩)))) (fun _ => lik_n fun _ _ _ => rfl)
    · by_cases h2 : a4 = 1002
      · subst h2
        rcases sm_r1_s S with h | ⟨x, r, rfl⟩
        · exact lik_n fun _ _ _ => h _
        · exact lik_if (fun _ => lik_x _ _ _ (fun _ _ _ => rfl) (by first | exact hU0 | exact hUw _ ⟨_, _, _, rfl⟩ | exact hUw _ ⟨_, _, rfl⟩ | exact hUw _ ⟨rfl, _, _, _, rfl⟩ | exact hUw _ (Or.inl ⟨_, _, rfl, by first | exact Or.inl rfl | exact Or.inr rfl⟩) | exact hUw _ (Or.inr (Or.inl ⟨_, _, rfl, rfl⟩)) | exact hUw _ (Or.inr (Or.inr ⟨_, _, rfl, by first | exact Or.inl rfl | exact Or.inr ⟨rfl, by dsimp only; omega⟩⟩)))) (fun _ => lik_n fun _ _ _ => rfl)
      · refine lik_e (G := fun nx _ hx => sm_cl C (a1, a2, a3, a4) hx S σ fun r s => nx L r s) (fun nx jp hx => ?_) (lik_cl (hC ⟨h, h2⟩))
        simp only [sm_I]
  case putfield i =>
    obtain ⟨a1, a2, a3, a4⟩ := a
    show sm_lik U (fun nx _ _ => sm_pf w a1 a2 a3 S σ fun r s => nx L r s)
    rcases S with _ | ⟨v1, _ | ⟨v2, r⟩⟩
    · rcases a3 with _ | _ | _ | _ | _ | _ | _ | _ | _ | _ | n <;> first | exact lik_n fun _ _ _ => rfl | (cases w <;> exact lik_n fun _ _ _ => rfl)
    · rcases v1 with x | x | x | x <;> rcases a3 with _ | _ | _ | _ | _ | _ | _ | _ | _ | _ | n <;> first | exact lik_n fun _ _ _ => rfl | (cases w <;> exact lik_n fun _ _ _ => rfl)
    · rcases v1 with x | x | x | x <;> rcases v2 with y | y | y | y <;> rcases a3 with _ | _ | _ | _ | _ | _ | _ | _ | _ | _ | n
      all_goals first
        | exact lik_n fun _ _ _ => rfl
        | exact lik_rq fun i _ => lik_x _ _ _ (fun _ _ _ => rfl) (by first | exact hU0 | exact hUw _ ⟨_, _, _, rfl⟩ | exact hUw _ ⟨_, _, rfl⟩ | exact hUw _ ⟨rfl, _, _, _, rfl⟩ | exact hUw _ (Or.inl ⟨_, _, rfl, by first | exact Or.inl rfl | exact Or.inr rfl⟩) | exact hUw _ (Or.inr (Or.inl ⟨_, _, rfl, rfl⟩)) | exact hUw _ (Or.inr (Or.inr ⟨_, _, rfl, by first | exact Or.inl rfl | exact Or.inr ⟨rfl, by dsimp only; omega⟩⟩)))
        | exact lik_if (fun _ => lik_rq fun i _ => lik_x _ _ _ (fun _ _ _ => rfl) (by first | exact hU0 | exact hUw _ ⟨_, _, _, rfl⟩ | exact hUw _ ⟨_, _, rfl⟩ | exact hUw _ ⟨rfl, _, _, _, rfl⟩ | exact hUw _ (Or.inl ⟨_, _, rfl, by first | exact Or.inl rfl | exact Or.inr rfl⟩) | exact hUw _ (Or.inr (Or.inl ⟨_, _, rfl, rfl⟩)) | exact hUw _ (Or.inr (Or.inr ⟨_, _, rfl, by first | exact Or.inl rfl | exact Or.inr ⟨rfl, by dsimp only; omega⟩⟩)))) (fun _ => lik_n fun _ _ _ => rfl)
        | (cases w <;> first | exact lik_n fun _ _ _ => rfl | exact lik_rq fun i _ => lik_x _ _ _ (fun _ _ _ => rfl) (by first | exact hU0 | exact hUw _ ⟨_, _, _, rfl⟩ | exact hUw _ ⟨_, _, rfl⟩ | exact hUw _ ⟨rfl, _, _, _, rfl⟩ | exact hUw _ (Or.inl ⟨_, _, rfl, by first | exact Or.inl rfl | exact Or.inr rfl⟩) | exact hUw _ (Or.inr (Or.inl ⟨_, _, rfl, rfl⟩)) | exact hUw _ (Or.inr (Or.inr ⟨_, _, rfl, by first | exact Or.inl rfl | exact Or.inr ⟨rfl, by dsimp only; omega⟩⟩))))
  case dup =>
    rcases S with _ | ⟨v, r⟩
    · exact lik_n fun _ _ _ => rfl
    · exact lik_if (fun _ => lik_x _ _ _ (fun _ _ _ => rfl) (by first | exact hU0 | exact hUw _ ⟨_, _, _, rfl⟩ | exact hUw _ ⟨_, _, rfl⟩ | exact hUw _ ⟨rfl, _, _, _, rfl⟩ | exact hUw _ (Or.inl ⟨_, _, rfl, by first | exact Or.inl rfl | exact Or.inr rfl⟩) | exact hUw _ (Or.inr (Or.inl ⟨_, _, rfl, rfl⟩)) | exact hUw _ (Or.inr (Or.inr ⟨_, _, rfl, by first | exact Or.inl rfl | exact Or.inr ⟨rfl, by dsimp only; omega⟩⟩)))) (fun _ => lik_n fun _ _ _ => rfl)
  case pop =>
    rcases S with _ | ⟨v, r⟩
    · exact lik_n fun _ _ _ => rfl
    · exact lik_if (fun _ => lik_x _ _ _ (fun _ _ _ => rfl) (by first | exact hU0 | exact hUw _ ⟨_, _, _, rfl⟩ | exact hUw _ ⟨_, _, rfl⟩ | exact hUw _ ⟨rfl, _, _, _, rfl⟩ | exact hUw _ (Or.inl ⟨_, _, rfl, by first | exact Or.inl rfl | exact Or.inr rfl⟩) | exact hUw _ (Or.inr (Or.inl ⟨_, _, rfl, rfl⟩)) | exact hUw _ (Or.inr (Or.inr ⟨_, _, rfl, by first | exact Or.inl rfl | exact Or.inr ⟨rfl, by dsimp only; omega⟩⟩)))) (fun _ => lik_n fun _ _ _ => rfl)
  case dup2 =>
    rcases S with _ | ⟨v, _ | ⟨u, r⟩⟩
    · exact lik_n fun _ _ _ => rfl
    · exact lik_n fun _ _ _ => rfl
    · exact lik_if (fun _ => lik_x _ _ _ (fun _ _ _ => rfl) (by first | exact hU0 | exact hUw _ ⟨_, _, _, rfl⟩ | exact hUw _ ⟨_, _, rfl⟩ | exact hUw _ ⟨rfl, _, _, _, rfl⟩ | exact hUw _ (Or.inl ⟨_, _, rfl, by first | exact Or.inl rfl | exact Or.inr rfl⟩) | exact hUw _ (Or.inr (Or.inl ⟨_, _, rfl, rfl⟩)) | exact hUw _ (Or.inr (Or.inr ⟨_, _, rfl, by first | exact Or.inl rfl | exact Or.inr ⟨rfl, by dsimp only; omega⟩⟩)))) (fun _ => lik_n fun _ _ _ => rfl)
  case ifCond c o =>
    rcases sm_p1_s S with h | ⟨x, r, rfl⟩
    · exact lik_n fun _ _ _ => h _
    · cases c <;> exact lik_if (fun _ => by first | exact lik_x _ _ _ (fun _ _ _ => rfl) (by first | exact hU0 | exact hUw _ ⟨_, _, _, rfl⟩ | exact hUw _ ⟨_, _, rfl⟩ | exact hUw _ ⟨rfl, _, _, _, rfl⟩ | exact hUw _ (Or.inl ⟨_, _, rfl, by first | exact Or.inl rfl | exact Or.inr rfl⟩) | exact hUw _ (Or.inr (Or.inl ⟨_, _, rfl, rfl⟩)) | exact hUw _ (Or.inr (Or.inr ⟨_, _, rfl, by first | exact Or.inl rfl | exact Or.inr ⟨rfl, by dsimp only; omega⟩⟩))) | exact lik_j _ _ _ _ (fun _ _ _ => rfl) hU0) (fun _ => by first | exact lik_x _ _ _ (fun _ _ _ => rfl) (by first | exact hU0 | exact hUw _ ⟨_, _, _, rfl⟩ | exact hUw _ ⟨_, _, rfl⟩ | exact hUw _ ⟨rfl, _, _, _, rfl⟩ | exact hUw _ (Or.inl ⟨_, _, rfl, by first | exact Or.inl rfl | exact Or.inr rfl⟩) | exact hUw _ (Or.inr (Or.inl ⟨_, _, rfl, rfl⟩)) | exact hUw _ (Or.inr (Or.inr ⟨_, _, rfl, by first | exact Or.inl rfl | exact Or.inr ⟨rfl, by dsimp only; omega⟩⟩))) | exact lik_j _ _ _ _ (fun _ _ _ => rfl) hU0)
  case if_icmp c o =>
    rcases sm_p2_s S with h | ⟨x, y, r, rfl⟩
    · exact lik_n fun _ _ _ => h _
    · cases c <;> exact lik_if (fun _ => by first | exact lik_x _ _ _ (fun _ _ _ => rfl) (by first | exact hU0 | exact hUw _ ⟨_, _, _, rfl⟩ | exact hUw _ ⟨_, _, rfl⟩ | exact hUw _ ⟨rfl, _, _, _, rfl⟩ | exact hUw _ (Or.inl ⟨_, _, rfl, by first | exact Or.inl rfl | exact Or.inr rfl⟩) | exact hUw _ (Or.inr (Or.inl ⟨_, _, rfl, rfl⟩)) | exact hUw _ (Or.inr (Or.inr ⟨_, _, rfl, by first | exact Or.inl rfl | exact Or.inr ⟨rfl, by dsimp only; omega⟩⟩))) | exact lik_j _ _ _ _ (fun _ _ _ => rfl) hU0) (fun _ => by first | exact lik_x _ _ _ (fun _ _ _ => rfl) (by first | exact hU0 | exact hUw _ ⟨_, _, _, rfl⟩ | exact hUw _ ⟨_, _, rfl⟩ | exact hUw _ ⟨rfl, _, _, _, rfl⟩ | exact hUw _ (Or.inl ⟨_, _, rfl, by first | exact Or.inl rfl | exact Or.inr rfl⟩) | exact hUw _ (Or.inr (Or.inl ⟨_, _, rfl, rfl⟩)) | exact hUw _ (Or.inr (Or.inr ⟨_, _, rfl, by first | exact Or.inl rfl | exact Or.inr ⟨rfl, by dsimp only; omega⟩⟩))) | exact lik_j _ _ _ _ (fun _ _ _ => rfl) hU0)
  case if_acmp c o =>
    rcases sm_r2_s S with h | ⟨x, y, r, rfl⟩
    · exact lik_n fun _ _ _ => h _
    · cases c <;> exact lik_if (fun _ => by first | exact lik_x _ _ _ (fun _ _ _ => rfl) (by first | exact hU0 | exact hUw _ ⟨_, _, _, rfl⟩ | exact hUw _ ⟨_, _, rfl⟩ | exact hUw _ ⟨rfl, _, _, _, rfl⟩ | exact hUw _ (Or.inl ⟨_, _, rfl, by first | exact Or.inl rfl | exact Or.inr rfl⟩) | exact hUw _ (Or.inr (Or.inl ⟨_, _, rfl, rfl⟩)) | exact hUw _ (Or.inr (Or.inr ⟨_, _, rfl, by first | exact Or.inl rfl | exact Or.inr ⟨rfl, by dsimp only; omega⟩⟩))) | exact lik_j _ _ _ _ (fun _ _ _ => rfl) hU0) (fun _ => lik_if (fun _ => by first | exact lik_x _ _ _ (fun _ _ _ => rfl) (by first | exact hU0 | exact hUw _ ⟨_, _, _, rfl⟩ | exact hUw _ ⟨_, _, rfl⟩ | exact hUw _ ⟨rfl, _, _, _, rfl⟩ | exact hUw _ (Or.inl ⟨_, _, rfl, by first | exact Or.inl rfl | exact Or.inr rfl⟩) | exact hUw _ (Or.inr (Or.inl ⟨_, _, rfl, rfl⟩)) | exact hUw _ (Or.inr (Or.inr ⟨_, _, rfl, by first | exact Or.inl rfl | exact Or.inr ⟨rfl, by dsimp only; omega⟩⟩))) | exact lik_j _ _ _ _ (fun _ _ _ => rfl) hU0) (fun _ => lik_n fun _ _ _ => rfl))
  case ifnull o =>
    rcases sm_r1_s S with h | ⟨x, r, rfl⟩
    · exact lik_n fun _ _ _ => h _
    · exact lik_if (fun _ => by first | exact lik_x _ _ _ (fun _ _ _ => rfl) (by first | exact hU0 | exact hUw _ ⟨_, _, _, rfl⟩ | exact hUw _ ⟨_, _, rfl⟩ | exact hUw _ ⟨rfl, _, _, _, rfl⟩ | exact hUw _ (Or.inl ⟨_, _, rfl, by first | exact Or.inl rfl | exact Or.inr rfl⟩) | exact hUw _ (Or.inr (Or.inl ⟨_, _, rfl, rfl⟩)) | exact hUw _ (Or.inr (Or.inr ⟨_, _, rfl, by first | exact Or.inl rfl | exact Or.inr ⟨rfl, by dsimp only; omega⟩⟩))) | exact lik_j _ _ _ _ (fun _ _ _ => rfl) hU0) (fun _ => by first | exact lik_x _ _ _ (fun _ _ _ => rfl) (by first | exact hU0 | exact hUw _ ⟨_, _, _, rfl⟩ | exact hUw _ ⟨_, _, rfl⟩ | exact hUw _ ⟨rfl, _, _, _, rfl⟩ | exact hUw _ (Or.inl ⟨_, _, rfl, by first | exact Or.inl rfl | exact Or.inr rfl⟩) | exact hUw _ (Or.inr (Or.inl ⟨_, _, rfl, rfl⟩)) | exact hUw _ (Or.inr (Or.inr ⟨_, _, rfl, by first | exact Or.inl rfl | exact Or.inr ⟨rfl, by dsimp only; omega⟩⟩))) | exact lik_j _ _ _ _ (fun _ _ _ => rfl) hU0)
  case ifnonnull o =>
    rcases sm_r1_s S with h | ⟨x, r, rfl⟩
    · exact lik_n fun _ _ _ => h _
    · exact lik_if (fun _ => by first | exact lik_x _ _ _ (fun _ _ _ => rfl) (by first | exact hU0 | exact hUw _ ⟨_, _, _, rfl⟩ | exact hUw _ ⟨_, _, rfl⟩ | exact hUw _ ⟨rfl, _, _, _, rfl⟩ | exact hUw _ (Or.inl ⟨_, _, rfl, by first | exact Or.inl rfl | exact Or.inr rfl⟩) | exact hUw _ (Or.inr (Or.inl ⟨_, _, rfl, rfl⟩)) | exact hUw _ (Or.inr (Or.inr ⟨_, _, rfl, by first | exact Or.inl rfl | exact Or.inr ⟨rfl, by dsimp only; omega⟩⟩))) | exact lik_j _ _ _ _ (fun _ _ _ => rfl) hU0) (fun _ => by first | exact lik_x _ _ _ (fun _ _ _ => rfl) (by first | exact hU0 | exact hUw _ ⟨_, _, _, rfl⟩ | exact hUw _ ⟨_, _, rfl⟩ | exact hUw _ ⟨rfl, _, _, _, rfl⟩ | exact hUw _ (Or.inl ⟨_, _, rfl, by first | exact Or.inl rfl | exact Or.inr rfl⟩) | exact hUw _ (Or.inr (Or.inl ⟨_, _, rfl, rfl⟩)) | exact hUw _ (Or.inr (Or.inr ⟨_, _, rfl, by first | exact Or.inl rfl | exact Or.inr ⟨rfl, by dsimp only; omega⟩⟩))) | exact lik_j _ _ _ _ (fun _ _ _ => rfl) hU0)
  case tableswitch d lo hi os =>
    rcases sm_p1_s S with h | ⟨x, r, rfl⟩
    · exact lik_n fun _ _ _ => h _
    · exact lik_sw hU0 _
  case lookupswitch d ps =>
    rcases sm_p1_s S with h | ⟨x, r, rfl⟩
    · exact lik_n fun _ _ _ => h _
    · exact lik_sw hU0 _
  case iaload =>
    rcases sm_a0_s S with h | ⟨j, q, r, rfl⟩
    · exact lik_n fun _ _ _ => h _
    · exact lik_b (fun _ => lik_rq fun _ _ => lik_ix fun _ => lik_x _ _ _ (fun _ _ _ => rfl) (by first | exact hU0 | exact hUw _ ⟨_, _, _, rfl⟩ | exact hUw _ ⟨_, _, rfl⟩ | exact hUw _ ⟨rfl, _, _, _, rfl⟩ | exact hUw _ (Or.inl ⟨_, _, rfl, by first | exact Or.inl rfl | exact Or.inr rfl⟩) | exact hUw _ (Or.inr (Or.inl ⟨_, _, rfl, rfl⟩)) | exact hUw _ (Or.inr (Or.inr ⟨_, _, rfl, by first | exact Or.inl rfl | exact Or.inr ⟨rfl, by dsimp only; omega⟩⟩)))) (fun _ => lik_b (fun _ => lik_rq fun _ _ => lik_ix fun _ => lik_x _ _ _ (fun _ _ _ => rfl) (by first | exact hU0 | exact hUw _ ⟨_, _, _, rfl⟩ | exact hUw _ ⟨_, _, rfl⟩ | exact hUw _ ⟨rfl, _, _, _, rfl⟩ | exact hUw _ (Or.inl ⟨_, _, rfl, by first | exact Or.inl rfl | exact Or.inr rfl⟩) | exact hUw _ (Or.inr (Or.inl ⟨_, _, rfl, rfl⟩)) | exact hUw _ (Or.inr (Or.inr ⟨_, _, rfl, by first | exact Or.inl rfl | exact Or.inr ⟨rfl, by dsimp only; omega⟩⟩)))) (fun _ => lik_rq fun _ _ => lik_ix fun _ => lik_x _ _ _ (fun _ _ _ => rfl) (by first | exact hU0 | exact hUw _ ⟨_, _, _, rfl⟩ | exact hUw _ ⟨_, _, rfl⟩ | exact hUw _ ⟨rfl, _, _, _, rfl⟩ | exact hUw _ (Or.inl ⟨_, _, rfl, by first | exact Or.inl rfl | exact Or.inr rfl⟩) | exact hUw _ (Or.inr (Or.inl ⟨_, _, rfl, rfl⟩)) | exact hUw _ (Or.inr (Or.inr ⟨_, _, rfl, by first | exact Or.inl rfl | exact Or.inr ⟨rfl, by dsimp only; omega⟩⟩)))))
  case baload =>
    rcases sm_a0_s S with h | ⟨j, q, r, rfl⟩
    · exact lik_n fun _ _ _ => h _
    · exact lik_b (fun _ => lik_rq fun _ _ => lik_ix fun _ => lik_x _ _ _ (fun _ _ _ => rfl) (by first | exact hU0 | exact hUw _ ⟨_, _, _, rfl⟩ | exact hUw _ ⟨_, _, rfl⟩ | exact hUw _ ⟨rfl, _, _, _, rfl⟩ | exact hUw _ (Or.inl ⟨_, _, rfl, by first | exact Or.inl rfl | exact Or.inr rfl⟩) | exact hUw _ (Or.inr (Or.inl ⟨_, _, rfl, rfl⟩)) | exact hUw _ (Or.inr (Or.inr ⟨_, _, rfl, by first | exact Or.inl rfl | exact Or.inr ⟨rfl, by dsimp only; omega⟩⟩)))) (fun _ => lik_rq fun _ _ => lik_ix fun _ => lik_x _ _ _ (fun _ _ _ => rfl) (by first | exact hU0 | exact hUw _ ⟨_, _, _, rfl⟩ | exact hUw _ ⟨_, _, rfl⟩ | exact hUw _ ⟨rfl, _, _, _, rfl⟩ | exact hUw _ (Or.inl ⟨_, _, rfl, by first | exact Or.inl rfl | exact Or.inr rfl⟩) | exact hUw _ (Or.inr (Or.inl ⟨_, _, rfl, rfl⟩)) | exact hUw _ (Or.inr (Or.inr ⟨_, _, rfl, by first | exact Or.inl rfl | exact Or.inr ⟨rfl, by dsimp only; omega⟩⟩))))
  case arraylength =>
    rcases sm_r1_s S with h | ⟨q, r, rfl⟩
    · exact lik_n fun _ _ _ => h _
    · exact lik_b (fun _ => lik_rq fun _ _ => lik_x _ _ _ (fun _ _ _ => rfl) (by first | exact hU0 | exact hUw _ ⟨_, _, _, rfl⟩ | exact hUw _ ⟨_, _, rfl⟩ | exact hUw _ ⟨rfl, _, _, _, rfl⟩ | exact hUw _ (Or.inl ⟨_, _, rfl, by first | exact Or.inl rfl | exact Or.inr rfl⟩) | exact hUw _ (Or.inr (Or.inl ⟨_, _, rfl, rfl⟩)) | exact hUw _ (Or.inr (Or.inr ⟨_, _, rfl, by first | exact Or.inl rfl | exact Or.inr ⟨rfl, by dsimp only; omega⟩⟩)))) (fun _ => lik_b (fun _ => lik_rq fun _ _ => lik_x _ _ _ (fun _ _ _ => rfl) (by first | exact hU0 | exact hUw _ ⟨_, _, _, rfl⟩ | exact hUw _ ⟨_, _, rfl⟩ | exact hUw _ ⟨rfl, _, _, _, rfl⟩ | exact hUw _ (Or.inl ⟨_, _, rfl, by first | exact Or.inl rfl | exact Or.inr rfl⟩) | exact hUw _ (Or.inr (Or.inl ⟨_, _, rfl, rfl⟩)) | exact hUw _ (Or.inr (Or.inr ⟨_, _, rfl, by first | exact Or.inl rfl | exact Or.inr ⟨rfl, by dsimp only; omega⟩⟩)))) (fun _ => lik_b (fun _ => lik_rq fun _ _ => lik_x _ _ _ (fun _ _ _ => rfl) (by first | exact hU0 | exact hUw _ ⟨_, _, _, rfl⟩ | exact hUw _ ⟨_, _, rfl⟩ | exact hUw _ ⟨rfl, _, _, _, rfl⟩ | exact hUw _ (Or.inl ⟨_, _, rfl, by first | exact Or.inl rfl | exact Or.inr rfl⟩) | exact hUw _ (Or.inr (Or.inl ⟨_, _, rfl, rfl⟩)) | exact hUw _ (Or.inr (Or.inr ⟨_, _, rfl, by first | exact Or.inl rfl | exact Or.inr ⟨rfl, by dsimp only; omega⟩⟩)))) (fun _ => lik_rq fun _ _ => lik_x _ _ _ (fun _ _ _ => rfl) (by first | exact hU0 | exact hUw _ ⟨_, _, _, rfl⟩ | exact hUw _ ⟨_, _, rfl⟩ | exact hUw _ ⟨rfl, _, _, _, rfl⟩ | exact hUw _ (Or.inl ⟨_, _, rfl, by first | exact Or.inl rfl | exact Or.inr rfl⟩) | exact hUw _ (Or.inr (Or.inl ⟨_, _, rfl, rfl⟩)) | exact hUw _ (Or.inr (Or.inr ⟨_, _, rfl, by first | exact Or.inl rfl | exact Or.inr ⟨rfl, by dsimp only; omega⟩⟩))))))
  case laload =>
    rcases sm_a0_s S with h | ⟨j, q, r, rfl⟩
    · exact lik_n fun _ _ _ => h _
    · exact lik_rq fun _ _ => lik_ix fun _ => lik_x _ _ _ (fun _ _ _ => rfl) (by first | exact hU0 | exact hUw _ ⟨_, _, _, rfl⟩ | exact hUw _ ⟨_, _, rfl⟩ | exact hUw _ ⟨rfl, _, _, _, rfl⟩ | exact hUw _ (Or.inl ⟨_, _, rfl, by first | exact Or.inl rfl | exact Or.inr rfl⟩) | exact hUw _ (Or.inr (Or.inl ⟨_, _, rfl, rfl⟩)) | exact hUw _ (Or.inr (Or.inr ⟨_, _, rfl, by first | exact Or.inl rfl | exact Or.inr ⟨rfl, by dsimp only; omega⟩⟩)))
  case aaload =>
    rcases sm_a0_s S with h | ⟨j, q, r, rfl⟩
    · exact lik_n fun _ _ _ => h _
    · exact lik_rq fun _ _ => lik_ix fun _ => lik_x _ _ _ (fun _ _ _ => rfl) (by first | exact hU0 | exact hUw _ ⟨_, _, _, rfl⟩ | exact hUw _ ⟨_, _, rfl⟩ | exact hUw _ ⟨rfl, _, _, _, rfl⟩ | exact hUw _ (Or.inl ⟨_, _, rfl, by first | exact Or.inl rfl | exact Or.inr rfl⟩) | exact hUw _ (Or.inr (Or.inl ⟨_, _, rfl, rfl⟩)) | exact hUw _ (Or.inr (Or.inr ⟨_, _, rfl, by first | exact Or.inl rfl | exact Or.inr ⟨rfl, by dsimp only; omega⟩⟩)))
  case iastore =>
    rcases sm_aI_s S with h | ⟨x, j, q, r, rfl⟩
    · exact lik_n fun _ _ _ => h _
    · exact lik_rq fun _ _ => lik_ix fun _ => lik_x _ _ _ (fun _ _ _ => rfl) (by first | exact hU0 | exact hUw _ ⟨_, _, _, rfl⟩ | exact hUw _ ⟨_, _, rfl⟩ | exact hUw _ ⟨rfl, _, _, _, rfl⟩ | exact hUw _ (Or.inl ⟨_, _, rfl, by first | exact Or.inl rfl | exact Or.inr rfl⟩) | exact hUw _ (Or.inr (Or.inl ⟨_, _, rfl, rfl⟩)) | exact hUw _ (Or.inr (Or.inr ⟨_, _, rfl, by first | exact Or.inl rfl | exact Or.inr ⟨rfl, by dsimp only; omega⟩⟩)))
  case bastore =>
    rcases sm_aI_s S with h | ⟨x, j, q, r, rfl⟩
    · exact lik_n fun _ _ _ => h _
    · exact lik_rq fun _ _ => lik_ix fun _ => lik_x _ _ _ (fun _ _ _ => rfl) (by first | exact hU0 | exact hUw _ ⟨_, _, _, rfl⟩ | exact hUw _ ⟨_, _, rfl⟩ | exact hUw _ ⟨rfl, _, _, _, rfl⟩ | exact hUw _ (Or.inl ⟨_, _, rfl, by first | exact Or.inl rfl | exact Or.inr rfl⟩) | exact hUw _ (Or.inr (Or.inl ⟨_, _, rfl, rfl⟩)) | exact hUw _ (Or.inr (Or.inr ⟨_, _, rfl, by first | exact Or.inl rfl | exact Or.inr ⟨rfl, by dsimp only; omega⟩⟩)))
  case lastore =>
    rcases sm_aL_s S with h | ⟨x, j, q, r, rfl⟩
    · exact lik_n fun _ _ _ => h _
    · exact lik_rq fun _ _ => lik_ix fun _ => lik_x _ _ _ (fun _ _ _ => rfl) (by first | exact hU0 | exact hUw _ ⟨_, _, _, rfl⟩ | exact hUw _ ⟨_, _, rfl⟩ | exact hUw _ ⟨rfl, _, _, _, rfl⟩ | exact hUw _ (Or.inl ⟨_, _, rfl, by first | exact Or.inl rfl | exact Or.inr rfl⟩) | exact hUw _ (Or.inr (Or.inl ⟨_, _, rfl, rfl⟩)) | exact hUw _ (Or.inr (Or.inr ⟨_, _, rfl, by first | exact Or.inl rfl | exact Or.inr ⟨rfl, by dsimp only; omega⟩⟩)))
  case aastore =>
    rcases sm_aR_s S with h | ⟨x, j, q, r, rfl⟩
    · exact lik_n fun _ _ _ => h _
    · exact lik_rq fun _ _ => lik_ix fun _ => lik_if (fun _ => lik_x _ _ _ (fun _ _ _ => rfl) (by first | exact hU0 | exact hUw _ ⟨_, _, _, rfl⟩ | exact hUw _ ⟨_, _, rfl⟩ | exact hUw _ ⟨rfl, _, _, _, rfl⟩ | exact hUw _ (Or.inl ⟨_, _, rfl, by first | exact Or.inl rfl | exact Or.inr rfl⟩) | exact hUw _ (Or.inr (Or.inl ⟨_, _, rfl, rfl⟩)) | exact hUw _ (Or.inr (Or.inr ⟨_, _, rfl, by first | exact Or.inl rfl | exact Or.inr ⟨rfl, by dsimp only; omega⟩⟩)))) (fun _ => lik_n fun _ _ _ => rfl)
  case new i =>
    refine lik_b (fun _ => lik_n fun _ _ _ => rfl) (fun hb => lik_x _ _ _ (fun _ _ _ => rfl) (hUw _ ⟨_, _, rfl, fun hw => ?_⟩))
    subst hw
    simp only [Bool.true_and, Bool.not_eq_false', Bool.or_eq_true, beq_iff_eq] at hb
    omega
  case newarray t =>
    rcases sm_p1_s S with h | ⟨x, r, rfl⟩
    · exact lik_n fun _ _ _ => h _
    · exact lik_if (fun _ => lik_n fun _ _ _ => rfl) (fun _ => lik_x _ _ _ (fun _ _ _ => rfl) (by first | exact hU0 | exact hUw _ ⟨_, _, _, rfl⟩ | exact hUw _ ⟨_, _, rfl⟩ | exact hUw _ ⟨rfl, _, _, _, rfl⟩ | exact hUw _ (Or.inl ⟨_, _, rfl, by first | exact Or.inl rfl | exact Or.inr rfl⟩) | exact hUw _ (Or.inr (Or.inl ⟨_, _, rfl, rfl⟩)) | exact hUw _ (Or.inr (Or.inr ⟨_, _, rfl, by first | exact Or.inl rfl | exact Or.inr ⟨rfl, by dsimp only; omega⟩⟩))))
  case anewarray t =>
    rcases sm_p1_s S with h | ⟨x, r, rfl⟩
    · exact lik_n fun _ _ _ => h _
    · exact lik_if (fun _ => lik_n fun _ _ _ => rfl) (fun _ => lik_x _ _ _ (fun _ _ _ => rfl) (by first | exact hU0 | exact hUw _ ⟨_, _, _, rfl⟩ | exact hUw _ ⟨_, _, rfl⟩ | exact hUw _ ⟨rfl, _, _, _, rfl⟩ | exact hUw _ (Or.inl ⟨_, _, rfl, by first | exact Or.inl rfl | exact Or.inr rfl⟩) | exact hUw _ (Or.inr (Or.inl ⟨_, _, rfl, rfl⟩)) | exact hUw _ (Or.inr (Or.inr ⟨_, _, rfl, by first | exact Or.inl rfl | exact Or.inr ⟨rfl, by dsimp only; omega⟩⟩))))
  case idiv =>
    rcases sm_p2_s S with h | ⟨x, y, r, rfl⟩
    · exact lik_n fun _ _ _ => h _
    · exact lik_if (fun _ => lik_n fun _ _ _ => rfl) (fun _ => lik_x _ _ _ (fun _ _ _ => rfl) (by first | exact hU0 | exact hUw _ ⟨_, _, _, rfl⟩ | exact hUw _ ⟨_, _, rfl⟩ | exact hUw _ ⟨rfl, _, _, _, rfl⟩ | exact hUw _ (Or.inl ⟨_, _, rfl, by first | exact Or.inl rfl | exact Or.inr rfl⟩) | exact hUw _ (Or.inr (Or.inl ⟨_, _, rfl, rfl⟩)) | exact hUw _ (Or.inr (Or.inr ⟨_, _, rfl, by first | exact Or.inl rfl | exact Or.inr ⟨rfl, by dsimp only; omega⟩⟩))))
  case irem =>
    rcases sm_p2_s S with h | ⟨x, y, r, rfl⟩
    · exact lik_n fun _ _ _ => h _
    · exact lik_if (fun _ => lik_n fun _ _ _ => rfl) (fun _ => lik_x _ _ _ (fun _ _ _ => rfl) (by first | exact hU0 | exact hUw _ ⟨_, _, _, rfl⟩ | exact hUw _ ⟨_, _, rfl⟩ | exact hUw _ ⟨rfl, _, _, _, rfl⟩ | exact hUw _ (Or.inl ⟨_, _, rfl, by first | exact Or.inl rfl | exact Or.inr rfl⟩) | exact hUw _ (Or.inr (Or.inl ⟨_, _, rfl, rfl⟩)) | exact hUw _ (Or.inr (Or.inr ⟨_, _, rfl, by first | exact Or.inl rfl | exact Or.inr ⟨rfl, by dsimp only; omega⟩⟩))))
  case getfield i =>
    rcases sm_r1_s S with h | ⟨q, r, rfl⟩
    · exact lik_n fun _ _ _ => h _
    · exact lik_rq fun _ _ => lik_x _ _ _ (fun _ _ _ => rfl) (by first | exact hU0 | exact hUw _ ⟨_, _, _, rfl⟩ | exact hUw _ ⟨_, _, rfl⟩ | exact hUw _ ⟨rfl, _, _, _, rfl⟩ | exact hUw _ (Or.inl ⟨_, _, rfl, by first | exact Or.inl rfl | exact Or.inr rfl⟩) | exact hUw _ (Or.inr (Or.inl ⟨_, _, rfl, rfl⟩)) | exact hUw _ (Or.inr (Or.inr ⟨_, _, rfl, by first | exact Or.inl rfl | exact Or.inr ⟨rfl, by dsimp only; omega⟩⟩)))
  case lshl =>
    rcases sm_p1_s S with h | ⟨y, r, rfl⟩
    · exact lik_n fun _ _ _ => h _
    · rcases sm_q1_s r with h | ⟨x, r, rfl⟩
      · exact lik_n fun _ _ _ => h _
      · exact lik_x _ _ _ (fun _ _ _ => rfl) (by first | exact hU0 | exact hUw _ ⟨_, _, _, rfl⟩ | exact hUw _ ⟨_, _, rfl⟩ | exact hUw _ ⟨rfl, _, _, _, rfl⟩ | exact hUw _ (Or.inl ⟨_, _, rfl, by first | exact Or.inl rfl | exact Or.inr rfl⟩) | exact hUw _ (Or.inr (Or.inl ⟨_, _, rfl, rfl⟩)) | exact hUw _ (Or.inr (Or.inr ⟨_, _, rfl, by first | exact Or.inl rfl | exact Or.inr ⟨rfl, by dsimp only; omega⟩⟩)))
  case athrow =>
    rcases sm_r1_s S with h | ⟨q, r, rfl⟩
    · exact lik_n fun _ _ _ => h _
    · exact lik_rq fun _ _ => lik_h _ (fun _ _ _ => rfl) hU0
  case getstatic i => rcases a with ⟨_ | _ | a, b⟩ <;> exact lik_x _ _ _ (fun _ _ _ => rfl) (by first | exact hU0 | exact hUw _ ⟨_, _, _, rfl⟩ | exact hUw _ ⟨_, _, rfl⟩ | exact hUw _ ⟨rfl, _, _, _, rfl⟩ | exact hUw _ (Or.inl ⟨_, _, rfl, by first | exact Or.inl rfl | exact Or.inr rfl⟩) | exact hUw _ (Or.inr (Or.inl ⟨_, _, rfl, rfl⟩)) | exact hUw _ (Or.inr (Or.inr ⟨_, _, rfl, by first | exact Or.inl rfl | exact Or.inr ⟨rfl, by dsimp only; omega⟩⟩)))
  case ldc i => rcases a with ⟨_ | a, b⟩ <;> exact lik_x _ _ _ (fun _ _ _ => rfl) (by first | exact hU0 | exact hUw _ ⟨_, _, _, rfl⟩ | exact hUw _ ⟨_, _, rfl⟩ | exact hUw _ ⟨rfl, _, _, _, rfl⟩ | exact hUw _ (Or.inl ⟨_, _, rfl, by first | exact Or.inl rfl | exact Or.inr rfl⟩) | exact hUw _ (Or.inr (Or.inl ⟨_, _, rfl, rfl⟩)) | exact hUw _ (Or.inr (Or.inr ⟨_, _, rfl, by first | exact Or.inl rfl | exact Or.inr ⟨rfl, by dsimp only; omega⟩⟩)))
  case ldc_w i => rcases a with ⟨_ | a, b⟩ <;> exact lik_x _ _ _ (fun _ _ _ => rfl) (by first | exact hU0 | exact hUw _ ⟨_, _, _, rfl⟩ | exact hUw _ ⟨_, _, rfl⟩ | exact hUw _ ⟨rfl, _, _, _, rfl⟩ | exact hUw _ (Or.inl ⟨_, _, rfl, by first | exact Or.inl rfl | exact Or.inr rfl⟩) | exact hUw _ (Or.inr (Or.inl ⟨_, _, rfl, rfl⟩)) | exact hUw _ (Or.inr (Or.inr ⟨_, _, rfl, by first | exact Or.inl rfl | exact Or.inr ⟨rfl, by dsimp only; omega⟩⟩)))
  case goto o => exact lik_j _ _ _ _ (fun _ _ _ => rfl) hU0
  case iinc i n =>
    refine lik_ld (F := fun v nx _ _ => match v with
      | .inl x => nx (sm_st1 L i (vI (x + Int32.ofInt n))) S σ
      | _ => none) fun v => ?_
    rcases v with x | x | x | x <;> first | exact lik_n fun _ _ _ => rfl | exact lik_x _ _ _ (fun _ _ _ => rfl) (by first | exact hU0 | exact hUw _ ⟨_, _, _, rfl⟩ | exact hUw _ ⟨_, _, rfl⟩ | exact hUw _ ⟨rfl, _, _, _, rfl⟩ | exact hUw _ (Or.inl ⟨_, _, rfl, by first | exact Or.inl rfl | exact Or.inr rfl⟩) | exact hUw _ (Or.inr (Or.inl ⟨_, _, rfl, rfl⟩)) | exact hUw _ (Or.inr (Or.inr ⟨_, _, rfl, by first | exact Or.inl rfl | exact Or.inr ⟨rfl, by dsimp only; omega⟩⟩)))
  case iload i =>
    exact lik_ld (F := fun v nx _ _ => nx L (v :: S) σ) fun v => lik_x _ _ _ (fun _ _ _ => rfl) (by first | exact hU0 | exact hUw _ ⟨_, _, _, rfl⟩ | exact hUw _ ⟨_, _, rfl⟩ | exact hUw _ ⟨rfl, _, _, _, rfl⟩ | exact hUw _ (Or.inl ⟨_, _, rfl, by first | exact Or.inl rfl | exact Or.inr rfl⟩) | exact hUw _ (Or.inr (Or.inl ⟨_, _, rfl, rfl⟩)) | exact hUw _ (Or.inr (Or.inr ⟨_, _, rfl, by first | exact Or.inl rfl | exact Or.inr ⟨rfl, by dsimp only; omega⟩⟩)))
  case iload_n i =>
    exact lik_ld (F := fun v nx _ _ => nx L (v :: S) σ) fun v => lik_x _ _ _ (fun _ _ _ => rfl) (by first | exact hU0 | exact hUw _ ⟨_, _, _, rfl⟩ | exact hUw _ ⟨_, _, rfl⟩ | exact hUw _ ⟨rfl, _, _, _, rfl⟩ | exact hUw _ (Or.inl ⟨_, _, rfl, by first | exact Or.inl rfl | exact Or.inr rfl⟩) | exact hUw _ (Or.inr (Or.inl ⟨_, _, rfl, rfl⟩)) | exact hUw _ (Or.inr (Or.inr ⟨_, _, rfl, by first | exact Or.inl rfl | exact Or.inr ⟨rfl, by dsimp only; omega⟩⟩)))
  case lload i =>
    exact lik_ld (F := fun v nx _ _ => nx L (v :: S) σ) fun v => lik_x _ _ _ (fun _ _ _ => rfl) (by first | exact hU0 | exact hUw _ ⟨_, _, _, rfl⟩ | exact hUw _ ⟨_, _, rfl⟩ | exact hUw _ ⟨rfl, _, _, _, rfl⟩ | exact hUw _ (Or.inl ⟨_, _, rfl, by first | exact Or.inl rfl | exact Or.inr rfl⟩) | exact hUw _ (Or.inr (Or.inl ⟨_, _, rfl, rfl⟩)) | exact hUw _ (Or.inr (Or.inr ⟨_, _, rfl, by first | exact Or.inl rfl | exact Or.inr ⟨rfl, by dsimp only; omega⟩⟩)))
  case lload_n i =>
    exact lik_ld (F := fun v nx _ _ => nx L (v :: S) σ) fun v => lik_x _ _ _ (fun _ _ _ => rfl) (by first | exact hU0 | exact hUw _ ⟨_, _, _, rfl⟩ | exact hUw _ ⟨_, _, rfl⟩ | exact hUw _ ⟨rfl, _, _, _, rfl⟩ | exact hUw _ (Or.inl ⟨_, _, rfl, by first | exact Or.inl rfl | exact Or.inr rfl⟩) | exact hUw _ (Or.inr (Or.inl ⟨_, _, rfl, rfl⟩)) | exact hUw _ (Or.inr (Or.inr ⟨_, _, rfl, by first | exact Or.inl rfl | exact Or.inr ⟨rfl, by dsimp only; omega⟩⟩)))
  case aload i =>
    exact lik_ld (F := fun v nx _ _ => nx L (v :: S) σ) fun v => lik_x _ _ _ (fun _ _ _ => rfl) (by first | exact hU0 | exact hUw _ ⟨_, _, _, rfl⟩ | exact hUw _ ⟨_, _, rfl⟩ | exact hUw _ ⟨rfl, _, _, _, rfl⟩ | exact hUw _ (Or.inl ⟨_, _, rfl, by first | exact Or.inl rfl | exact Or.inr rfl⟩) | exact hUw _ (Or.inr (Or.inl ⟨_, _, rfl, rfl⟩)) | exact hUw _ (Or.inr (Or.inr ⟨_, _, rfl, by first | exact Or.inl rfl | exact Or.inr ⟨rfl, by dsimp only; omega⟩⟩)))
  case aload_n i =>
    exact lik_ld (F := fun v nx _ _ => nx L (v :: S) σ) fun v => lik_x _ _ _ (fun _ _ _ => rfl) (by first | exact hU0 | exact hUw _ ⟨_, _, _, rfl⟩ | exact hUw _ ⟨_, _, rfl⟩ | exact hUw _ ⟨rfl, _, _, _, rfl⟩ | exact hUw _ (Or.inl ⟨_, _, rfl, by first | exact Or.inl rfl | exact Or.inr rfl⟩) | exact hUw _ (Or.inr (Or.inl ⟨_, _, rfl, rfl⟩)) | exact hUw _ (Or.inr (Or.inr ⟨_, _, rfl, by first | exact Or.inl rfl | exact Or.inr ⟨rfl, by dsimp only; omega⟩⟩)))
  case ireturn =>
    rcases S with _ | ⟨v, _ | ⟨u, r⟩⟩
    · exact lik_n fun _ _ _ => rfl
    · rcases v with x | x | x | x <;> first | exact lik_n fun _ _ _ => rfl | exact lik_r (sm_rt a.1 x σ) (fun _ _ _ => rfl) (sm_rt_un hU0 _ _)
    · rcases v with x | x | x | x <;> exact lik_n fun _ _ _ => rfl
  case lreturn =>
    rcases S with _ | ⟨v, _ | ⟨u, r⟩⟩
    · exact lik_n fun _ _ _ => rfl
    · rcases v with x | x | x | x <;> first | exact lik_n fun _ _ _ => rfl | exact lik_r _ (fun _ _ _ => rfl) (by intro o s q; cases q; exact hU0)
    · rcases v with x | x | x | x <;> exact lik_n fun _ _ _ => rfl
  case areturn =>
    rcases S with _ | ⟨v, _ | ⟨u, r⟩⟩
    · exact lik_n fun _ _ _ => rfl
    · rcases v with x | x | x | x <;> first | exact lik_n fun _ _ _ => rfl | exact lik_r _ (fun _ _ _ => rfl) (by intro o s q; cases q; exact hU0)
    · rcases v with x | x | x | x <;> exact lik_n fun _ _ _ => rfl
  case return_ =>
    rcases S with _ | ⟨v, r⟩
    · exact lik_r _ (fun _ _ _ => rfl) (by intro o s q; cases q; exact hU0)
    · exact lik_n fun _ _ _ => rfl
  all_goals first
    | exact lik_n fun _ _ _ => rfl
    | exact lik_x _ _ _ (fun _ _ _ => rfl) (by first | exact hU0 | exact hUw _ ⟨_, _, _, rfl⟩ | exact hUw _ ⟨_, _, rfl⟩ | exact hUw _ ⟨rfl, _, _, _, rfl⟩ | exact hUw _ (Or.inl ⟨_, _, rfl, by first | exact Or.inl rfl | exact Or.inr rfl⟩) | exact hUw _ (Or.inr (Or.inl ⟨_, _, rfl, rfl⟩)) | exact hUw _ (Or.inr (Or.inr ⟨_, _, rfl, by first | exact Or.inl rfl | exact Or.inr ⟨rfl, by dsimp only; omega⟩⟩)))
    | (rcases sm_p1_s S with h | ⟨x, r, rfl⟩
       · exact lik_n fun _ _ _ => h _
       · exact lik_x _ _ _ (fun _ _ _ => rfl) (by first | exact hU0 | exact hUw _ ⟨_, _, _, rfl⟩ | exact hUw _ ⟨_, _, rfl⟩ | exact hUw _ ⟨rfl, _, _, _, rfl⟩ | exact hUw _ (Or.inl ⟨_, _, rfl, by first | exact Or.inl rfl | exact Or.inr rfl⟩) | exact hUw _ (Or.inr (Or.inl ⟨_, _, rfl, rfl⟩)) | exact hUw _ (Or.inr (Or.inr ⟨_, _, rfl, by first | exact Or.inl rfl | exact Or.inr ⟨rfl, by dsimp only; omega⟩⟩))))
    | (rcases sm_p2_s S with h | ⟨x, y, r, rfl⟩
       · exact lik_n fun _ _ _ => h _
       · exact lik_x _ _ _ (fun _ _ _ => rfl) (by first | exact hU0 | exact hUw _ ⟨_, _, _, rfl⟩ | exact hUw _ ⟨_, _, rfl⟩ | exact hUw _ ⟨rfl, _, _, _, rfl⟩ | exact hUw _ (Or.inl ⟨_, _, rfl, by first | exact Or.inl rfl | exact Or.inr rfl⟩) | exact hUw _ (Or.inr (Or.inl ⟨_, _, rfl, rfl⟩)) | exact hUw _ (Or.inr (Or.inr ⟨_, _, rfl, by first | exact Or.inl rfl | exact Or.inr ⟨rfl, by dsimp only; omega⟩⟩))))
    | (rcases sm_q1_s S with h | ⟨x, r, rfl⟩
       · exact lik_n fun _ _ _ => h _
       · exact lik_x _ _ _ (fun _ _ _ => rfl) (by first | exact hU0 | exact hUw _ ⟨_, _, _, rfl⟩ | exact hUw _ ⟨_, _, rfl⟩ | exact hUw _ ⟨rfl, _, _, _, rfl⟩ | exact hUw _ (Or.inl ⟨_, _, rfl, by first | exact Or.inl rfl | exact Or.inr rfl⟩) | exact hUw _ (Or.inr (Or.inl ⟨_, _, rfl, rfl⟩)) | exact hUw _ (Or.inr (Or.inr ⟨_, _, rfl, by first | exact Or.inl rfl | exact Or.inr ⟨rfl, by dsimp only; omega⟩⟩))))
    | (rcases sm_q2_s S with h | ⟨x, y, r, rfl⟩
       · exact lik_n fun _ _ _ => h _
       · exact lik_x _ _ _ (fun _ _ _ => rfl) (by first | exact hU0 | exact hUw _ ⟨_, _, _, rfl⟩ | exact hUw _ ⟨_, _, rfl⟩ | exact hUw _ ⟨rfl, _, _, _, rfl⟩ | exact hUw _ (Or.inl ⟨_, _, rfl, by first | exact Or.inl rfl | exact Or.inr rfl⟩) | exact hUw _ (Or.inr (Or.inl ⟨_, _, rfl, rfl⟩)) | exact hUw _ (Or.inr (Or.inr ⟨_, _, rfl, by first | exact Or.inl rfl | exact Or.inr ⟨rfl, by dsimp only; omega⟩⟩))))
    | (rcases sm_r1_s S with h | ⟨x, r, rfl⟩
       · exact lik_n fun _ _ _ => h _
       · exact lik_x _ _ _ (fun _ _ _ => rfl) (by first | exact hU0 | exact hUw _ ⟨_, _, _, rfl⟩ | exact hUw _ ⟨_, _, rfl⟩ | exact hUw _ ⟨rfl, _, _, _, rfl⟩ | exact hUw _ (Or.inl ⟨_, _, rfl, by first | exact Or.inl rfl | exact Or.inr rfl⟩) | exact hUw _ (Or.inr (Or.inl ⟨_, _, rfl, rfl⟩)) | exact hUw _ (Or.inr (Or.inr ⟨_, _, rfl, by first | exact Or.inl rfl | exact Or.inr ⟨rfl, by dsimp only; omega⟩⟩))))
/-- one way of going on that a method's rows all keep, its run keeps -/
theorem sm_run_un {Z : sm_T} {P : sm_P} {w : Bool} {C : sm_C} {m : Nat} {ρ : sm_S → sm_S → Prop} (h0 : ∀ s, ρ s s) (ht : ∀ a b c, ρ a b → ρ b c → ρ a c)
    (hw : ∀ e ∈ P.1 m, ∀ σ s, sm_wr w e.2.1 e.2.2.2.1 σ s → ρ σ s) (hC : ∀ e ∈ P.1 m, sm_isC e.2.1 e.2.2.2.1 → ∀ As σ o t, C e.2.2.2.1.1 As σ = some (o, t) → ρ σ t) (hin : ∀ pc e, sm_find pc (P.1 m) = some e → e ∈ P.1 m) :
    ∀ (n : Nat) {pc : Nat} {L S : List sm_V} {σ : sm_S} {o : sm_O} {s : sm_S}, sm_run Z P w C m n pc L S σ = some (o, s) → ρ σ s
  | 0, _, _, _, _, _, _, h => by cases h
  | n + 1, pc, L, S, σ, o, s, h => by
    rw [sm_run] at h
    cases hf : sm_find pc (P.1 m) with
    | none => rw [hf] at h; cases h
    | some e =>
      rw [hf] at h
      dsimp only at h
      unfold sm_at at h
      have he := hin pc e hf
      rcases sm_I_un (U := ρ σ) (σ := σ) Z w C e.2.1 e.2.2.2.1 (h0 σ) (hw e he σ) (fun hc As o t => hC e he hc As σ o t) e.1 (sm_lv e L) S with ⟨r0, hm, q⟩ | ⟨L1, S1, s1, hm, q⟩ | ⟨t, L1, S1, s1, hm, q⟩ | ⟨s1, hm, q⟩ <;> dsimp only at q
      · rw [q] at h; exact hm _ _ h
      · rw [q] at h
        exact ht _ _ _ hm (sm_run_un h0 ht hw hC hin n h)
      · rw [q] at h
        exact ht _ _ _ hm (sm_run_un h0 ht hw hC hin n h)
      · rw [q] at h
        unfold sm_hx at h
        cases hh : P.2.2 m e.1 with
        | none => rw [hh] at h; cases h; exact hm
        | some z =>
          rw [hh] at h
          exact ht _ _ _ hm (sm_run_un h0 ht hw hC hin n h)
end
