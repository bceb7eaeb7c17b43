section
/-- what an instruction comes to, whatever comes behind it -/
abbrev sm_lin (F : (List sm_V → List sm_V → sm_S → sm_R) → (Nat → List sm_V → List sm_V → sm_S → sm_R) → (sm_S → sm_R) → sm_R) : Prop :=
  (∃ r0, ∀ nx jp hx, F nx jp hx = r0) ∨ (∃ L S s, ∀ nx jp hx, F nx jp hx = nx L S s) ∨ (∃ t L S s, ∀ nx jp hx, F nx jp hx = jp t L S s) ∨ (∃ s, ∀ nx jp hx, F nx jp hx = hx s)
theorem lin_n {F} (h : ∀ nx jp hx, F nx jp hx = none) : sm_lin F := Or.inl ⟨none, h⟩
theorem lin_r {F} (r0 : sm_R) (h : ∀ nx jp hx, F nx jp hx = r0) : sm_lin F := Or.inl ⟨r0, h⟩
theorem lin_x {F} (L S s) (h : ∀ nx jp hx, F nx jp hx = nx L S s) : sm_lin F := Or.inr (Or.inl ⟨L, S, s, h⟩)
theorem lin_j {F} (t L S s) (h : ∀ nx jp hx, F nx jp hx = jp t L S s) : sm_lin F := Or.inr (Or.inr (Or.inl ⟨t, L, S, s, h⟩))
theorem lin_h {F} (s) (h : ∀ nx jp hx, F nx jp hx = hx s) : sm_lin F := Or.inr (Or.inr (Or.inr ⟨s, h⟩))
theorem lin_e {F G} (h : ∀ nx jp hx, F nx jp hx = G nx jp hx) (k : sm_lin G) : sm_lin F := by
  rcases k with ⟨r0, k⟩ | ⟨L, S, s, k⟩ | ⟨t, L, S, s, k⟩ | ⟨s, k⟩
  · exact lin_r r0 fun a b c => (h a b c).trans (k a b c)
  · exact lin_x L S s fun a b c => (h a b c).trans (k a b c)
  · exact lin_j t L S s fun a b c => (h a b c).trans (k a b c)
  · exact lin_h s fun a b c => (h a b c).trans (k a b c)
theorem lin_if {c : Prop} [Decidable c] {F G} (h1 : c → sm_lin F) (h2 : ¬ c → sm_lin G) : sm_lin (fun nx jp hx => if c then F nx jp hx else G nx jp hx) := by
  by_cases h : c
  · exact lin_e (fun _ _ _ => if_pos h) (h1 h)
  · exact lin_e (fun _ _ _ => if_neg h) (h2 h)
theorem lin_rq {q : Nat × Nat} {t : Nat} {F : Nat → _ → _ → _ → sm_R} (h : ∀ i, q = (t, i) → sm_lin (F i)) : sm_lin (fun nx jp hx => sm_rq q t fun i => F i nx jp hx) :=
  lin_if (fun e => h q.2 (by rw [← e])) (fun _ => lin_n fun _ _ _ => rfl)
theorem lin_ix {x : Int32} {n : Nat} {F : Nat → _ → _ → _ → sm_R} (h : ∀ i, sm_lin (F i)) : sm_lin (fun nx jp hx => sm_ix x n fun i => F i nx jp hx) :=
  lin_if (fun _ => lin_n fun _ _ _ => rfl) (fun _ => h _)
theorem lin_b {b : Bool} {F G} (h1 : b = true → sm_lin F) (h2 : b = false → sm_lin G) : sm_lin (fun nx jp hx => bif b then F nx jp hx else G nx jp hx) := by
  cases b
  · exact h2 rfl
  · exact h1 rfl
theorem lin_sw {x : Int32} {d : Nat} {L S : List sm_V} {s : sm_S} : ∀ l : List (Int32 × Nat), sm_lin (fun _ jp _ => sm_sw x (fun t => jp t L S s) d l)
  | [] => lin_j d L S s fun _ _ _ => rfl
  | q :: r => lin_if (fun _ => lin_j q.2 L S s fun _ _ _ => rfl) (fun _ => lin_sw r)
theorem lin_ld {v : sm_V} {c : Nat} {F : sm_V → _ → _ → _ → sm_R} (h : ∀ u, sm_lin (F u)) : sm_lin (fun nx jp hx => sm_ld v (fun u => F u nx jp hx) c) := by
  rcases v with x | x | x | x <;> rcases c with _ | _ | _ | c <;> first | exact lin_n fun _ _ _ => rfl | exact h _
theorem lin_cl {C : sm_C} {a : Nat × Nat × Nat × Nat} {L S : List sm_V} {σ : sm_S} : sm_lin (fun nx _ hx => sm_cl C a hx S σ fun r s => nx L r s) := by
  obtain ⟨m, n, k, t⟩ := a
  unfold sm_cl
  dsimp only
  cases h : sm_take n [] S with
  | none => exact lin_n fun _ _ _ => rfl
  | some q =>
    obtain ⟨As, r⟩ := q
    dsimp only
    refine lin_if (fun _ => ?_) (fun _ => lin_n fun _ _ _ => rfl)
    have key : sm_lin (fun nx _ hx => match k with
        | 0 => sm_bV (C m As σ) hx fun s => nx L r s
        | 1 => sm_bI (C m As σ) hx fun x s => nx L (vI x :: r) s
        | 2 => sm_bL (C m As σ) hx fun x s => nx L (vL x :: r) s
        | _ => sm_bP (C m As σ) hx fun x s => nx L (vP x :: r) s) := by
      rcases hc : C m As σ with _ | ⟨_ | _ | o, s⟩
      · rcases k with _ | _ | _ | k <;> exact lin_n fun _ _ _ => rfl
      · rcases k with _ | _ | _ | k <;> exact lin_h s fun _ _ _ => rfl
      · rcases k with _ | _ | _ | k <;> first | exact lin_n fun _ _ _ => rfl | exact lin_x _ _ _ fun _ _ _ => rfl
      · rcases o with x | x | x | x <;> rcases k with _ | _ | _ | k <;> first | exact lin_n fun _ _ _ => rfl | exact lin_x _ _ _ fun _ _ _ => rfl
    cases t with
    | zero => exact key
    | succ t =>
      rcases As with _ | ⟨v, As⟩
      · exact lin_n fun _ _ _ => rfl
      · rcases v with x | x | x | x
        · exact lin_n fun _ _ _ => rfl
        · exact lin_n fun _ _ _ => rfl
        · exact lin_if (fun _ => key) (fun _ => lin_n fun _ _ _ => rfl)
        · exact lin_n fun _ _ _ => rfl
set_option maxHeartbeats 4000000 in
theorem sm_I_lin (Z : sm_T) (w : Bool) (C : sm_C) (ins : Instr) (a : Nat × Nat × Nat × Nat) (pc : Nat) (L S : List sm_V) (σ : sm_S) : sm_lin (fun nx jp hx => sm_I Z w C ins a pc nx jp hx L S σ) := by
  cases ins
  case invokevirtual i => exact lin_cl
  case invokestatic i =>
    obtain ⟨a1, a2, a3, a4⟩ := a
    by_cases h : a4 = 1000
    · subst h
      rcases S with _ | ⟨v1, _ | ⟨v2, _ | ⟨v3, _ | ⟨v4, _ | ⟨v5, r⟩⟩⟩⟩⟩
      · exact lin_n fun _ _ _ => rfl
      · rcases v1 with x | x | x | x <;> exact lin_n fun _ _ _ => rfl
      · rcases v1 with x | x | x | x <;> rcases v2 with y | y | y | y <;> exact lin_n fun _ _ _ => rfl
      · rcases v1 with x | x | x | x <;> rcases v2 with y | y | y | y <;> rcases v3 with z | z | z | z <;> exact lin_n fun _ _ _ => rfl
      · rcases v1 with x | x | x | x <;> rcases v2 with y | y | y | y <;> rcases v3 with z | z | z | z <;> rcases v4 with u | u | u | u <;> exact lin_n fun _ _ _ => rfl
      · rcases v1 with x | x | x | x <;> rcases v2 with y | y | y | y <;> rcases v3 with z | z | z | z <;> rcases v4 with u | u | u | u <;> rcases v5 with t | t | t | t
        all_goals first
          | exact lin_n fun _ _ _ => rfl
          | exact lin_if (fun _ => lin_rq fun i _ => lin_x _ _ _ fun _ _ _ => rfl) (fun _ => lin_n fun _ _ _ => rfl)
    · refine lin_e (G := fun nx _ hx => sm_cl C (a1, a2, a3, a4) hx S σ fun r s => nx L r s) (fun nx jp hx => ?_) lin_cl
      simp only [sm_I]
  case invokespecial i =>
    obtain ⟨a1, a2, a3, a4⟩ := a
    by_cases h : a4 = 1001
    · subst h
      rcases S with _ | ⟨v1, _ | ⟨v2, r⟩⟩
      · exact lin_n fun _ _ _ => rfl
      · rcases v1 with x | x | x | x <;> exact lin_n fun _ _ _ => rfl
      · rcases v1 with x | x | x | x <;> rcases v2 with y | y | y | y
        all_goals first
          | exact lin_n fun _ _ _ => rfl
          | exact lin_if (fun _ => lin_x _ _ _ fun _ _ _ => rfl) (fun _ => lin_n fun _ _ _ => rfl)
    · by_cases h2 : a4 = 1002
      · subst h2
        rcases sm_r1_s S with h | ⟨x, r, rfl⟩
        · exact lin_n fun _ _ _ => h _
        · exact lin_if (fun _ => lin_x _ _ _ fun _ _ _ => rfl) (fun _ => lin_n fun _ _ _ => rfl)
      · refine lin_e (G := fun nx _ hx => sm_cl C (a1, a2, a3, a4) hx S σ fun r s => nx L r s) (fun nx jp hx => ?_) lin_cl
        simp only [sm_I]
  case putfield i =>
    obtain ⟨a1, a2, a3, a4⟩ := a
    show sm_lin (fun nx _ _ => sm_pf w a1 a2 a3 S σ fun r s => nx L r s)
    rcases S with _ | ⟨v1, _ | ⟨v2, r⟩⟩
    · rcases a3 with _ | _ | _ | _ | _ | _ | _ | _ | _ | _ | n <;> first | exact lin_n fun _ _ _ => rfl | (cases w <;> exact lin_n fun _ _ _ => rfl)
    · rcases v1 with x | x | x | x <;> rcases a3 with _ | _ | _ | _ | _ | _ | _ | _ | _ | _ | n <;> first | exact lin_n fun _ _ _ => rfl | (cases w <;> exact lin_n fun _ _ _ => rfl)
    · rcases v1 with x | x | x | x <;> rcases v2 with y | y | y | y <;> rcases a3 with _ | _ | _ | _ | _ | _ | _ | _ | _ | _ | n
      all_goals first
        | exact lin_n fun _ _ _ => rfl
        | exact lin_rq fun i _ => lin_x _ _ _ fun _ _ _ => rfl
        | exact lin_if (fun _ => lin_rq fun i _ => lin_x _ _ _ fun _ _ _ => rfl) (fun _ => lin_n fun _ _ _ => rfl)
        | (cases w <;> first | exact lin_n fun _ _ _ => rfl | exact lin_rq fun i _ => lin_x _ _ _ fun _ _ _ => rfl)
  case dup =>
    rcases S with _ | ⟨v, r⟩
    · exact lin_n fun _ _ _ => rfl
    · exact lin_if (fun _ => lin_x _ _ _ fun _ _ _ => rfl) (fun _ => lin_n fun _ _ _ => rfl)
  case pop =>
    rcases S with _ | ⟨v, r⟩
    · exact lin_n fun _ _ _ => rfl
    · exact lin_if (fun _ => lin_x _ _ _ fun _ _ _ => rfl) (fun _ => lin_n fun _ _ _ => rfl)
  case dup2 =>
    rcases S with _ | ⟨v, _ | ⟨u, r⟩⟩
    · exact lin_n fun _ _ _ => rfl
    · exact lin_n fun _ _ _ => rfl
    · exact lin_if (fun _ => lin_x _ _ _ fun _ _ _ => rfl) (fun _ => lin_n fun _ _ _ => rfl)
  case ifCond c o =>
    rcases sm_p1_s S with h | ⟨x, r, rfl⟩
    · exact lin_n fun _ _ _ => h _
    · cases c <;> exact lin_if (fun _ => by first | exact lin_x _ _ _ fun _ _ _ => rfl | exact lin_j _ _ _ _ fun _ _ _ => rfl) (fun _ => by first | exact lin_x _ _ _ fun _ _ _ => rfl | exact lin_j _ _ _ _ fun _ _ _ => rfl)
  case if_icmp c o =>
    rcases sm_p2_s S with h | ⟨x, y, r, rfl⟩
    · exact lin_n fun _ _ _ => h _
    · cases c <;> exact lin_if (fun _ => by first | exact lin_x _ _ _ fun _ _ _ => rfl | exact lin_j _ _ _ _ fun _ _ _ => rfl) (fun _ => by first | exact lin_x _ _ _ fun _ _ _ => rfl | exact lin_j _ _ _ _ fun _ _ _ => rfl)
  case if_acmp c o =>
    rcases sm_r2_s S with h | ⟨x, y, r, rfl⟩
    · exact lin_n fun _ _ _ => h _
    · cases c <;> exact lin_if (fun _ => by first | exact lin_x _ _ _ fun _ _ _ => rfl | exact lin_j _ _ _ _ fun _ _ _ => rfl) (fun _ => lin_if (fun _ => by first | exact lin_x _ _ _ fun _ _ _ => rfl | exact lin_j _ _ _ _ fun _ _ _ => rfl) (fun _ => lin_n fun _ _ _ => rfl))
  case ifnull o =>
    rcases sm_r1_s S with h | ⟨x, r, rfl⟩
    · exact lin_n fun _ _ _ => h _
    · exact lin_if (fun _ => by first | exact lin_x _ _ _ fun _ _ _ => rfl | exact lin_j _ _ _ _ fun _ _ _ => rfl) (fun _ => by first | exact lin_x _ _ _ fun _ _ _ => rfl | exact lin_j _ _ _ _ fun _ _ _ => rfl)
  case ifnonnull o =>
    rcases sm_r1_s S with h | ⟨x, r, rfl⟩
    · exact lin_n fun _ _ _ => h _
    · exact lin_if (fun _ => by first | exact lin_x _ _ _ fun _ _ _ => rfl | exact lin_j _ _ _ _ fun _ _ _ => rfl) (fun _ => by first | exact lin_x _ _ _ fun _ _ _ => rfl | exact lin_j _ _ _ _ fun _ _ _ => rfl)
  case tableswitch d lo hi os =>
    rcases sm_p1_s S with h | ⟨x, r, rfl⟩
    · exact lin_n fun _ _ _ => h _
    · exact lin_sw _
  case lookupswitch d ps =>
    rcases sm_p1_s S with h | ⟨x, r, rfl⟩
    · exact lin_n fun _ _ _ => h _
    · exact lin_sw _
  case iaload =>
    rcases sm_a0_s S with h | ⟨j, q, r, rfl⟩
    · exact lin_n fun _ _ _ => h _
    · exact lin_b (fun _ => lin_rq fun _ _ => lin_ix fun _ => lin_x _ _ _ fun _ _ _ => rfl) (fun _ => lin_b (fun _ => lin_rq fun _ _ => lin_ix fun _ => lin_x _ _ _ fun _ _ _ => rfl) (fun _ => lin_rq fun _ _ => lin_ix fun _ => lin_x _ _ _ fun _ _ _ => rfl))
  case baload =>
    rcases sm_a0_s S with h | ⟨j, q, r, rfl⟩
    · exact lin_n fun _ _ _ => h _
    · exact lin_b (fun _ => lin_rq fun _ _ => lin_ix fun _ => lin_x _ _ _ fun _ _ _ => rfl) (fun _ => lin_rq fun _ _ => lin_ix fun _ => lin_x _ _ _ fun _ _ _ => rfl)
  case arraylength =>
    rcases sm_r1_s S with h | ⟨q, r, rfl⟩
    · exact lin_n fun _ _ _ => h _
    · exact lin_b (fun _ => lin_rq fun _ _ => lin_x _ _ _ fun _ _ _ => rfl) (fun _ => lin_b (fun _ => lin_rq fun _ _ => lin_x _ _ _ fun _ _ _ => rfl) (fun _ => lin_b (fun _ => lin_rq fun _ _ => lin_x _ _ _ fun _ _ _ => rfl) (fun _ => lin_rq fun _ _ => lin_x _ _ _ fun _ _ _ => rfl)))
  case laload =>
    rcases sm_a0_s S with h | ⟨j, q, r, rfl⟩
    · exact lin_n fun _ _ _ => h _
    · exact lin_rq fun _ _ => lin_ix fun _ => lin_x _ _ _ fun _ _ _ => rfl
  case aaload =>
    rcases sm_a0_s S with h | ⟨j, q, r, rfl⟩
    · exact lin_n fun _ _ _ => h _
    · exact lin_rq fun _ _ => lin_ix fun _ => lin_x _ _ _ fun _ _ _ => rfl
  case iastore =>
    rcases sm_aI_s S with h | ⟨x, j, q, r, rfl⟩
    · exact lin_n fun _ _ _ => h _
    · exact lin_rq fun _ _ => lin_ix fun _ => lin_x _ _ _ fun _ _ _ => rfl
  case bastore =>
    rcases sm_aI_s S with h | ⟨x, j, q, r, rfl⟩
    · exact lin_n fun _ _ _ => h _
    · exact lin_rq fun _ _ => lin_ix fun _ => lin_x _ _ _ fun _ _ _ => rfl
  case lastore =>
    rcases sm_aL_s S with h | ⟨x, j, q, r, rfl⟩
    · exact lin_n fun _ _ _ => h _
    · exact lin_rq fun _ _ => lin_ix fun _ => lin_x _ _ _ fun _ _ _ => rfl
  case aastore =>
    rcases sm_aR_s S with h | ⟨x, j, q, r, rfl⟩
    · exact lin_n fun _ _ _ => h _
    · exact lin_rq fun _ _ => lin_ix fun _ => lin_if (fun _ => lin_x _ _ _ fun _ _ _ => rfl) (fun _ => lin_n fun _ _ _ => rfl)
  case new i => exact lin_b (fun _ => lin_n fun _ _ _ => rfl) (fun _ => lin_x _ _ _ fun _ _ _ => rfl)
  case newarray t =>
    rcases sm_p1_s S with h | ⟨x, r, rfl⟩
    · exact lin_n fun _ _ _ => h _
    · exact lin_if (fun _ => lin_n fun _ _ _ => rfl) (fun _ => lin_x _ _ _ fun _ _ _ => rfl)
  case anewarray t =>
    rcases sm_p1_s S with h | ⟨x, r, rfl⟩
    · exact lin_n fun _ _ _ => h _
    · exact lin_if (fun _ => lin_n fun _ _ _ => rfl) (fun _ => lin_x _ _ _ fun _ _ _ => rfl)
  case idiv =>
    rcases sm_p2_s S with h | ⟨x, y, r, rfl⟩
    · exact lin_n fun _ _ _ => h _
    · exact lin_if (fun _ => lin_n fun _ _ _ => rfl) (fun _ => lin_x _ _ _ fun _ _ _ => rfl)
  case irem =>
    rcases sm_p2_s S with h | ⟨x, y, r, rfl⟩
    · exact lin_n fun _ _ _ => h _
    · exact lin_if (fun _ => lin_n fun _ _ _ => rfl) (fun _ => lin_x _ _ _ fun _ _ _ => rfl)
  case getfield i =>
    rcases sm_r1_s S with h | ⟨q, r, rfl⟩
    · exact lin_n fun _ _ _ => h _
    · exact lin_rq fun _ _ => lin_x _ _ _ fun _ _ _ => rfl
  case lshl =>
    rcases sm_p1_s S with h | ⟨y, r, rfl⟩
    · exact lin_n fun _ _ _ => h _
    · rcases sm_q1_s r with h | ⟨x, r, rfl⟩
      · exact lin_n fun _ _ _ => h _
      · exact lin_x _ _ _ fun _ _ _ => rfl
  case athrow =>
    rcases sm_r1_s S with h | ⟨q, r, rfl⟩
    · exact lin_n fun _ _ _ => h _
    · exact lin_rq fun _ _ => lin_h _ fun _ _ _ => rfl
  case getstatic i => rcases a with ⟨_ | _ | a, b⟩ <;> exact lin_x _ _ _ fun _ _ _ => rfl
  case ldc i => rcases a with ⟨_ | a, b⟩ <;> exact lin_x _ _ _ fun _ _ _ => rfl
  case ldc_w i => rcases a with ⟨_ | a, b⟩ <;> exact lin_x _ _ _ fun _ _ _ => rfl
  case goto o => exact lin_j _ _ _ _ fun _ _ _ => rfl
  case iinc i n =>
    refine lin_ld (F := fun v nx _ _ => match v with
      | .inl x => nx (sm_st1 L i (vI (x + Int32.ofInt n))) S σ
      | _ => none) fun v => ?_
    rcases v with x | x | x | x <;> first | exact lin_n fun _ _ _ => rfl | exact lin_x _ _ _ fun _ _ _ => rfl
  case iload i =>
    exact lin_ld (F := fun v nx _ _ => nx L (v :: S) σ) fun v => lin_x _ _ _ fun _ _ _ => rfl
  case iload_n i =>
    exact lin_ld (F := fun v nx _ _ => nx L (v :: S) σ) fun v => lin_x _ _ _ fun _ _ _ => rfl
  case lload i =>
    exact lin_ld (F := fun v nx _ _ => nx L (v :: S) σ) fun v => lin_x _ _ _ fun _ _ _ => rfl
  case lload_n i =>
    exact lin_ld (F := fun v nx _ _ => nx L (v :: S) σ) fun v => lin_x _ _ _ fun _ _ _ => rfl
  case aload i =>
    exact lin_ld (F := fun v nx _ _ => nx L (v :: S) σ) fun v => lin_x _ _ _ fun _ _ _ => rfl
  case aload_n i =>
    exact lin_ld (F := fun v nx _ _ => nx L (v :: S) σ) fun v => lin_x _ _ _ fun _ _ _ => rfl
  case ireturn =>
    rcases S with _ | ⟨v, _ | ⟨u, r⟩⟩
    · exact lin_n fun _ _ _ => rfl
    · rcases v with x | x | x | x <;> first | exact lin_n fun _ _ _ => rfl | exact lin_r (sm_rt a.1 x σ) fun _ _ _ => rfl
    · rcases v with x | x | x | x <;> exact lin_n fun _ _ _ => rfl
  case lreturn =>
    rcases S with _ | ⟨v, _ | ⟨u, r⟩⟩
    · exact lin_n fun _ _ _ => rfl
    · rcases v with x | x | x | x <;> first | exact lin_n fun _ _ _ => rfl | exact lin_r _ fun _ _ _ => rfl
    · rcases v with x | x | x | x <;> exact lin_n fun _ _ _ => rfl
  case areturn =>
    rcases S with _ | ⟨v, _ | ⟨u, r⟩⟩
    · exact lin_n fun _ _ _ => rfl
    · rcases v with x | x | x | x <;> first | exact lin_n fun _ _ _ => rfl | exact lin_r _ fun _ _ _ => rfl
    · rcases v with x | x | x | x <;> exact lin_n fun _ _ _ => rfl
  case return_ =>
    rcases S with _ | ⟨v, r⟩
    · exact lin_r _ fun _ _ _ => rfl
    · exact lin_n fun _ _ _ => rfl
  all_goals first
    | exact lin_n fun _ _ _ => rfl
    | exact lin_x _ _ _ fun _ _ _ => rfl
    | (rcases sm_p1_s S with h | ⟨x, r, rfl⟩
       · exact lin_n fun _ _ _ => h _
       · exact lin_x _ _ _ fun _ _ _ => rfl)
    | (rcases sm_p2_s S with h | ⟨x, y, r, rfl⟩
       · exact lin_n fun _ _ _ => h _
       · exact lin_x _ _ _ fun _ _ _ => rfl)
    | (rcases sm_q1_s S with h | ⟨x, r, rfl⟩
       · exact lin_n fun _ _ _ => h _
       · exact lin_x _ _ _ fun _ _ _ => rfl)
    | (rcases sm_q2_s S with h | ⟨x, y, r, rfl⟩
       · exact lin_n fun _ _ _ => h _
       · exact lin_x _ _ _ fun _ _ _ => rfl)
    | (rcases sm_r1_s S with h | ⟨x, r, rfl⟩
       · exact lin_n fun _ _ _ => h _
       · exact lin_x _ _ _ fun _ _ _ => rfl)
end
