section
/-- cells and slots only grow -/
abbrev sm_mo (σ s : sm_S) : Prop := (σ.2.2.2.2.2.2.1 ≤ s.2.2.2.2.2.2.1 ∧ σ.2.2.2.2.2.2.2 ≤ s.2.2.2.2.2.2.2) ∧ (∀ t, σ.2.2.2.2.1 t ≤ s.2.2.2.2.1 t) ∧ ∀ t i, i < σ.2.2.2.2.1 t → s.2.2.2.2.2.1 t i = σ.2.2.2.2.2.1 t i
theorem mo_eq {σ s : sm_S} (h : s.2.2.2.2 = σ.2.2.2.2) : sm_mo σ s := by
  unfold sm_mo
  rw [h]
  exact ⟨⟨Nat.le_refl _, Nat.le_refl _⟩, fun _ => Nat.le_refl _, fun _ _ _ => rfl⟩
theorem mo_new {σ : sm_S} {t n m : Nat} : sm_mo σ (sN σ t n m) := by
  refine ⟨⟨Nat.le_succ _, Nat.le_add_right _ _⟩, fun t' => ?_, fun t' i hi => ?_⟩
  · show σ.2.2.2.2.1 t' ≤ (if t' = t then σ.2.2.2.2.1 t + 1 else σ.2.2.2.2.1 t')
    split
    · next h => rw [h]; exact Nat.le_succ _
    · exact Nat.le_refl _
  · show (if t' = t ∧ i = σ.2.2.2.2.1 t then σ.2.2.2.2.2.2.1 else σ.2.2.2.2.2.1 t' i) = _
    rw [if_neg]
    rintro ⟨rfl, rfl⟩
    omega
theorem mo_trans {σ s u : sm_S} (h : sm_mo σ s) (k : sm_mo s u) : sm_mo σ u :=
  ⟨⟨Nat.le_trans h.1.1 k.1.1, Nat.le_trans h.1.2 k.1.2⟩, fun t => Nat.le_trans (h.2.1 t) (k.2.1 t), fun t i hi => (k.2.2 t i (Nat.lt_of_lt_of_le hi (h.2.1 t))).trans (h.2.2 t i hi)⟩
abbrev sm_lim (σ : sm_S) (F : (List sm_V → List sm_V → sm_S → sm_R) → (Nat → List sm_V → List sm_V → sm_S → sm_R) → (sm_S → sm_R) → sm_R) : Prop :=
  (∃ r0, (∀ o s, r0 = some (o, s) → sm_mo σ s) ∧ ∀ nx jp hx, F nx jp hx = r0) ∨ (∃ L S s, sm_mo σ s ∧ ∀ nx jp hx, F nx jp hx = nx L S s) ∨ (∃ t L S s, sm_mo σ s ∧ ∀ nx jp hx, F nx jp hx = jp t L S s) ∨ (∃ s, sm_mo σ s ∧ ∀ nx jp hx, F nx jp hx = hx s)
variable {σ : sm_S}
theorem lim_n {F} (h : ∀ nx jp hx, F nx jp hx = none) : sm_lim σ F := Or.inl ⟨none, fun _ _ q => (by cases q), h⟩
theorem lim_r {F} (r0 : sm_R) (h : ∀ nx jp hx, F nx jp hx = r0) (hm : ∀ o s, r0 = some (o, s) → sm_mo σ s := by intro o s q; cases q; exact mo_eq rfl) : sm_lim σ F := Or.inl ⟨r0, hm, h⟩
theorem lim_x {F} (L S s) (h : ∀ nx jp hx, F nx jp hx = nx L S s) (hm : sm_mo σ s := by first | assumption | exact mo_eq rfl | exact mo_new) : sm_lim σ F := Or.inr (Or.inl ⟨L, S, s, hm, h⟩)
theorem lim_j {F} (t L S s) (h : ∀ nx jp hx, F nx jp hx = jp t L S s) (hm : sm_mo σ s := by exact mo_eq rfl) : sm_lim σ F := Or.inr (Or.inr (Or.inl ⟨t, L, S, s, hm, h⟩))
theorem lim_h {F} (s) (h : ∀ nx jp hx, F nx jp hx = hx s) (hm : sm_mo σ s := by first | assumption | exact mo_eq rfl) : sm_lim σ F := Or.inr (Or.inr (Or.inr ⟨s, hm, h⟩))
theorem lim_e {F G} (h : ∀ nx jp hx, F nx jp hx = G nx jp hx) (k : sm_lim σ G) : sm_lim σ F := by
  rcases k with ⟨r0, hm, k⟩ | ⟨L, S, s, hm, k⟩ | ⟨t, L, S, s, hm, k⟩ | ⟨s, hm, k⟩
  · exact Or.inl ⟨r0, hm, fun a b c => (h a b c).trans (k a b c)⟩
  · exact Or.inr (Or.inl ⟨L, S, s, hm, fun a b c => (h a b c).trans (k a b c)⟩)
  · exact Or.inr (Or.inr (Or.inl ⟨t, L, S, s, hm, fun a b c => (h a b c).trans (k a b c)⟩))
  · exact Or.inr (Or.inr (Or.inr ⟨s, hm, fun a b c => (h a b c).trans (k a b c)⟩))
theorem lim_if {c : Prop} [Decidable c] {F G} (h1 : c → sm_lim σ F) (h2 : ¬ c → sm_lim σ G) : sm_lim σ (fun nx jp hx => if c then F nx jp hx else G nx jp hx) := by
  by_cases h : c
  · exact lim_e (fun _ _ _ => if_pos h) (h1 h)
  · exact lim_e (fun _ _ _ => if_neg h) (h2 h)
theorem lim_rq {q : Nat × Nat} {t : Nat} {F : Nat → _ → _ → _ → sm_R} (h : ∀ i, q = (t, i) → sm_lim σ (F i)) : sm_lim σ (fun nx jp hx => sm_rq q t fun i => F i nx jp hx) :=
  lim_if (fun e => h q.2 (by rw [← e])) (fun _ => lim_n fun _ _ _ => rfl)
theorem lim_ix {x : Int32} {n : Nat} {F : Nat → _ → _ → _ → sm_R} (h : ∀ i, sm_lim σ (F i)) : sm_lim σ (fun nx jp hx => sm_ix x n fun i => F i nx jp hx) :=
  lim_if (fun _ => lim_n fun _ _ _ => rfl) (fun _ => h _)
theorem lim_b {b : Bool} {F G} (h1 : b = true → sm_lim σ F) (h2 : b = false → sm_lim σ G) : sm_lim σ (fun nx jp hx => bif b then F nx jp hx else G nx jp hx) := by
  cases b
  · exact h2 rfl
  · exact h1 rfl
theorem lim_sw {x : Int32} {d : Nat} {L S : List sm_V} : ∀ l : List (Int32 × Nat), sm_lim σ (fun _ jp _ => sm_sw x (fun t => jp t L S σ) d l)
  | [] => lim_j d L S σ fun _ _ _ => rfl
  | q :: r => lim_if (fun _ => lim_j q.2 L S σ fun _ _ _ => rfl) (fun _ => lim_sw r)
theorem lim_ld {v : sm_V} {c : Nat} {F : sm_V → _ → _ → _ → sm_R} (h : ∀ u, sm_lim σ (F u)) : sm_lim σ (fun nx jp hx => sm_ld v (fun u => F u nx jp hx) c) := by
  rcases v with x | x | x | x <;> rcases c with _ | _ | _ | c <;> first | exact lim_n fun _ _ _ => rfl | exact h _
theorem lim_cl {C : sm_C} (hC : ∀ m a s o t, C m a s = some (o, t) → sm_mo s t) {a : Nat × Nat × Nat × Nat} {L S : List sm_V} : sm_lim σ (fun nx _ hx => sm_cl C a hx S σ fun r s => nx L r s) := by
  obtain ⟨m, n, k, t⟩ := a
  unfold sm_cl
  dsimp only
  cases h : sm_take n [] S with
  | none => exact lim_n fun _ _ _ => rfl
  | some q =>
    obtain ⟨As, r⟩ := q
    dsimp only
    refine lim_if (fun _ => ?_) (fun _ => lim_n fun _ _ _ => rfl)
    have key : sm_lim σ (fun nx _ hx => match k with
        | 0 => sm_bV (C m As σ) hx fun s => nx L r s
        | 1 => sm_bI (C m As σ) hx fun x s => nx L (vI x :: r) s
        | 2 => sm_bL (C m As σ) hx fun x s => nx L (vL x :: r) s
        | _ => sm_bP (C m As σ) hx fun x s => nx L (vP x :: r) s) := by
      rcases hc : C m As σ with _ | ⟨_ | _ | o, s⟩ <;> try have hmo : sm_mo σ s := hC _ _ _ _ _ hc
      · rcases k with _ | _ | _ | k <;> exact lim_n fun _ _ _ => rfl
      · rcases k with _ | _ | _ | k <;> exact lim_h s fun _ _ _ => rfl
      · rcases k with _ | _ | _ | k <;> first | exact lim_n fun _ _ _ => rfl | exact lim_x _ _ _ fun _ _ _ => rfl
      · rcases o with x | x | x | x <;> rcases k with _ | _ | _ | k <;> first | exact lim_n fun _ _ _ => rfl | exact lim_x _ _ _ fun _ _ _ => rfl
    cases t with
    | zero => exact key
    | succ t =>
      rcases As with _ | ⟨v, As⟩
      · exact lim_n fun _ _ _ => rfl
      · rcases v with x | x | x | x
        · exact lim_n fun _ _ _ => rfl
        · exact lim_n fun _ _ _ => rfl
        · exact lim_if (fun _ => key) (fun _ => lim_n fun _ _ _ => rfl)
        · exact lim_n fun _ _ _ => rfl
theorem sm_rt_mo (k : Nat) (x : Int32) : ∀ o s, sm_rt k x σ = some (o, s) → sm_mo σ s := by
  intro o s h
  unfold sm_rt at h
  split at h
  · cases h; exact mo_eq rfl
  all_goals
    split at h
    · cases h; exact mo_eq rfl
    · cases h
set_option maxHeartbeats 4000000 in
theorem sm_I_mo (Z : sm_T) (w : Bool) (C : sm_C) (hC : ∀ m a s o t, C m a s = some (o, t) → sm_mo s t) (ins : Instr) (a : Nat × Nat × Nat × Nat) (pc : Nat) (L S : List sm_V) : sm_lim σ (fun nx jp hx => sm_I Z w C ins a pc nx jp hx L S σ) := by
  cases ins
  case invokevirtual i => exact lim_cl hC
  case invokestatic i =>
    obtain ⟨a1, a2, a3, a4⟩ := a
    by_cases h : a4 = 1000
    · subst h
      rcases S with _ | ⟨v1, _ | ⟨v2, _ | ⟨v3, _ | ⟨v4, _ | ⟨v5, r⟩⟩⟩⟩⟩
      · exact lim_n fun _ _ _ => rfl
      · rcases v1 with x | x | x | x <;> exact lim_n fun _ _ _ => rfl
      · rcases v1 with x | x | x | x <;> rcases v2 with y | y | y | y <;> exact lim_n fun _ _ _ => rfl
      · rcases v1 with x | x | x | x <;> rcases v2 with y | y | y | y <;> rcases v3 with z | z | z | z <;> exact lim_n fun _ _ _ => rfl
      · rcases v1 with x | x | x | x <;> rcases v2 with y | y | y | y <;> rcases v3 with z | z | z | z <;> rcases v4 with u | u | u | u <;> exact lim_n fun _ _ _ => rfl
      · rcases v1 with x | x | x | x <;> rcases v2 with y | y | y | y <;> rcases v3 with z | z | z | z <;> rcases v4 with u | u | u | u <;> rcases v5 with t | t | t | t
        all_goals first
          | exact lim_n fun _ _ _ => rfl
          | exact lim_if (fun _ => lim_rq fun i _ => lim_x _ _ _ fun _ _ _ => rfl) (fun _ => lim_n fun _ _ _ => rfl)
    · refine lim_e (G := fun nx _ hx => sm_cl C (a1, a2, a3, a4) hx S σ fun r s => nx L r s) (fun nx jp hx => ?_) (lim_cl hC)
      simp only [sm_I]
  case invokespecial i =>
    obtain ⟨a1, a2, a3, a4⟩ := a
    by_cases h : a4 = 1001
    · subst h
      rcases S with _ | ⟨v1, _ | ⟨v2, r⟩⟩
      · exact lim_n fun _ _ _ => rfl
      · rcases v1 with x | x | x | x <;> exact lim_n fun _ _ _ => rfl
      · rcases v1 with x | x | x | x <;> rcases v2 with y | y | y | y
        all_goals first
          | exact lim_n fun _ _ _ => rfl
          | exact lim_if (fun _ => lim_x _ _ _ fun _ _ _ => rfl) (fun _ => lim_n fun _ _ _ => rfl)
    · by_cases h2 : a4 = 1002
      · subst h2
        rcases sm_r1_s S with h | ⟨x, r, rfl⟩
        · exact lim_n fun _ _ _ => h _
        · exact lim_if (fun _ => lim_x _ _ _ fun _ _ _ => rfl) (fun _ => lim_n fun _ _ _ => rfl)
      · refine lim_e (G := fun nx _ hx => sm_cl C (a1, a2, a3, a4) hx S σ fun r s => nx L r s) (fun nx jp hx => ?_) (lim_cl hC)
        simp only [sm_I]
  case putfield i =>
    obtain ⟨a1, a2, a3, a4⟩ := a
    show sm_lim σ (fun nx _ _ => sm_pf w a1 a2 a3 S σ fun r s => nx L r s)
    rcases S with _ | ⟨v1, _ | ⟨v2, r⟩⟩
    · rcases a3 with _ | _ | _ | _ | _ | _ | _ | _ | _ | _ | n <;> first | exact lim_n fun _ _ _ => rfl | (cases w <;> exact lim_n fun _ _ _ => rfl)
    · rcases v1 with x | x | x | x <;> rcases a3 with _ | _ | _ | _ | _ | _ | _ | _ | _ | _ | n <;> first | exact lim_n fun _ _ _ => rfl | (cases w <;> exact lim_n fun _ _ _ => rfl)
    · rcases v1 with x | x | x | x <;> rcases v2 with y | y | y | y <;> rcases a3 with _ | _ | _ | _ | _ | _ | _ | _ | _ | _ | n
      all_goals first
        | exact lim_n fun _ _ _ => rfl
        | exact lim_rq fun i _ => lim_x _ _ _ fun _ _ _ => rfl
        | exact lim_if (fun _ => lim_rq fun i _ => lim_x _ _ _ fun _ _ _ => rfl) (fun _ => lim_n fun _ _ _ => rfl)
        | (cases w <;> first | exact lim_n fun _ _ _ => rfl | exact lim_rq fun i _ => lim_x _ _ _ fun _ _ _ => rfl)
  case dup =>
    rcases S with _ | ⟨v, r⟩
    · exact lim_n fun _ _ _ => rfl
    · exact lim_if (fun _ => lim_x _ _ _ fun _ _ _ => rfl) (fun _ => lim_n fun _ _ _ => rfl)
  case pop =>
    rcases S with _ | ⟨v, r⟩
    · exact lim_n fun _ _ _ => rfl
    · exact lim_if (fun _ => lim_x _ _ _ fun _ _ _ => rfl) (fun _ => lim_n fun _ _ _ => rfl)
  case dup2 =>
    rcases S with _ | ⟨v, _ | ⟨u, r⟩⟩
    · exact lim_n fun _ _ _ => rfl
    · exact lim_n fun _ _ _ => rfl
    · exact lim_if (fun _ => lim_x _ _ _ fun _ _ _ => rfl) (fun _ => lim_n fun _ _ _ => rfl)
  case ifCond c o =>
    rcases sm_p1_s S with h | ⟨x, r, rfl⟩
    · exact lim_n fun _ _ _ => h _
    · cases c <;> exact lim_if (fun _ => by first | exact lim_x _ _ _ fun _ _ _ => rfl | exact lim_j _ _ _ _ fun _ _ _ => rfl) (fun _ => by first | exact lim_x _ _ _ fun _ _ _ => rfl | exact lim_j _ _ _ _ fun _ _ _ => rfl)
  case if_icmp c o =>
    rcases sm_p2_s S with h | ⟨x, y, r, rfl⟩
    · exact lim_n fun _ _ _ => h _
    · cases c <;> exact lim_if (fun _ => by first | exact lim_x _ _ _ fun _ _ _ => rfl | exact lim_j _ _ _ _ fun _ _ _ => rfl) (fun _ => by first | exact lim_x _ _ _ fun _ _ _ => rfl | exact lim_j _ _ _ _ fun _ _ _ => rfl)
  case if_acmp c o =>
    rcases sm_r2_s S with h | ⟨x, y, r, rfl⟩
    · exact lim_n fun _ _ _ => h _
    · cases c <;> exact lim_if (fun _ => by first | exact lim_x _ _ _ fun _ _ _ => rfl | exact lim_j _ _ _ _ fun _ _ _ => rfl) (fun _ => lim_if (fun _ => by first | exact lim_x _ _ _ fun _ _ _ => rfl | exact lim_j _ _ _ _ fun _ _ _ => rfl) (fun _ => lim_n fun _ _ _ => rfl))
  case ifnull o =>
    rcases sm_r1_s S with h | ⟨x, r, rfl⟩
    · exact lim_n fun _ _ _ => h _
    · exact lim_if (fun _ => by first | exact lim_x _ _ _ fun _ _ _ => rfl | exact lim_j _ _ _ _ fun _ _ _ => rfl) (fun _ => by first | exact lim_x _ _ _ fun _ _ _ => rfl | exact lim_j _ _ _ _ fun _ _ _ => rfl)
  case ifnonnull o =>
    rcases sm_r1_s S with h | ⟨x, r, rfl⟩
    · exact lim_n fun _ _ _ => h _
    · exact lim_if (fun _ => by first | exact lim_x _ _ _ fun _ _ _ => rfl | exact lim_j _ _ _ _ fun _ _ _ => rfl) (fun _ => by first | exact lim_x _ _ _ fun _ _ _ => rfl | exact lim_j _ _ _ _ fun _ _ _ => rfl)
  case tableswitch d lo hi os =>
    rcases sm_p1_s S with h | ⟨x, r, rfl⟩
    · exact lim_n fun _ _ _ => h _
    · exact lim_sw _
  case lookupswitch d ps =>
    rcases sm_p1_s S with h | ⟨x, r, rfl⟩
    · exact lim_n fun _ _ _ => h _
    · exact lim_sw _
  case iaload =>
    rcases sm_a0_s S with h | ⟨j, q, r, rfl⟩
    · exact lim_n fun _ _ _ => h _
    · exact lim_b (fun _ => lim_rq fun _ _ => lim_ix fun _ => lim_x _ _ _ fun _ _ _ => rfl) (fun _ => lim_b (fun _ => lim_rq fun _ _ => lim_ix fun _ => lim_x _ _ _ fun _ _ _ => rfl) (fun _ => lim_rq fun _ _ => lim_ix fun _ => lim_x _ _ _ fun _ _ _ => rfl))
  case baload =>
    rcases sm_a0_s S with h | ⟨j, q, r, rfl⟩
    · exact lim_n fun _ _ _ => h _
    · exact lim_b (fun _ => lim_rq fun _ _ => lim_ix fun _ => lim_x _ _ _ fun _ _ _ => rfl) (fun _ => lim_rq fun _ _ => lim_ix fun _ => lim_x _ _ _ fun _ _ _ => rfl)
  case arraylength =>
    rcases sm_r1_s S with h | ⟨q, r, rfl⟩
    · exact lim_n fun _ _ _ => h _
    · exact lim_b (fun _ => lim_rq fun _ _ => lim_x _ _ _ fun _ _ _ => rfl) (fun _ => lim_b (fun _ => lim_rq fun _ _ => lim_x _ _ _ fun _ _ _ => rfl) (fun _ => lim_b (fun _ => lim_rq fun _ _ => lim_x _ _ _ fun _ _ _ => rfl) (fun _ => lim_rq fun _ _ => lim_x _ _ _ fun _ _ _ => rfl)))
  case laload =>
    rcases sm_a0_s S with h | ⟨j, q, r, rfl⟩
    · exact lim_n fun _ _ _ => h _
    · exact lim_rq fun _ _ => lim_ix fun _ => lim_x _ _ _ fun _ _ _ => rfl
  case aaload =>
    rcases sm_a0_s S with h | ⟨j, q, r, rfl⟩
    · exact lim_n fun _ _ _ => h _
    · exact lim_rq fun _ _ => lim_ix fun _ => lim_x _ _ _ fun _ _ _ => rfl
  case iastore =>
    rcases sm_aI_s S with h | ⟨x, j, q, r, rfl⟩
    · exact lim_n fun _ _ _ => h _
    · exact lim_rq fun _ _ => lim_ix fun _ => lim_x _ _ _ fun _ _ _ => rfl
  case bastore =>
    rcases sm_aI_s S with h | ⟨x, j, q, r, rfl⟩
    · exact lim_n fun _ _ _ => h _
    · exact lim_rq fun _ _ => lim_ix fun _ => lim_x _ _ _ fun _ _ _ => rfl
  case lastore =>
    rcases sm_aL_s S with h | ⟨x, j, q, r, rfl⟩
    · exact lim_n fun _ _ _ => h _
    · exact lim_rq fun _ _ => lim_ix fun _ => lim_x _ _ _ fun _ _ _ => rfl
  case aastore =>
    rcases sm_aR_s S with h | ⟨x, j, q, r, rfl⟩
    · exact lim_n fun _ _ _ => h _
    · exact lim_rq fun _ _ => lim_ix fun _ => lim_if (fun _ => lim_x _ _ _ fun _ _ _ => rfl) (fun _ => lim_n fun _ _ _ => rfl)
  case new i => exact lim_b (fun _ => lim_n fun _ _ _ => rfl) (fun _ => lim_x _ _ _ fun _ _ _ => rfl)
  case newarray t =>
    rcases sm_p1_s S with h | ⟨x, r, rfl⟩
    · exact lim_n fun _ _ _ => h _
    · exact lim_if (fun _ => lim_n fun _ _ _ => rfl) (fun _ => lim_x _ _ _ fun _ _ _ => rfl)
  case anewarray t =>
    rcases sm_p1_s S with h | ⟨x, r, rfl⟩
    · exact lim_n fun _ _ _ => h _
    · exact lim_if (fun _ => lim_n fun _ _ _ => rfl) (fun _ => lim_x _ _ _ fun _ _ _ => rfl)
  case idiv =>
    rcases sm_p2_s S with h | ⟨x, y, r, rfl⟩
    · exact lim_n fun _ _ _ => h _
    · exact lim_if (fun _ => lim_n fun _ _ _ => rfl) (fun _ => lim_x _ _ _ fun _ _ _ => rfl)
  case irem =>
    rcases sm_p2_s S with h | ⟨x, y, r, rfl⟩
    · exact lim_n fun _ _ _ => h _
    · exact lim_if (fun _ => lim_n fun _ _ _ => rfl) (fun _ => lim_x _ _ _ fun _ _ _ => rfl)
  case getfield i =>
    rcases sm_r1_s S with h | ⟨q, r, rfl⟩
    · exact lim_n fun _ _ _ => h _
    · exact lim_rq fun _ _ => lim_x _ _ _ fun _ _ _ => rfl
  case lshl =>
    rcases sm_p1_s S with h | ⟨y, r, rfl⟩
    · exact lim_n fun _ _ _ => h _
    · rcases sm_q1_s r with h | ⟨x, r, rfl⟩
      · exact lim_n fun _ _ _ => h _
      · exact lim_x _ _ _ fun _ _ _ => rfl
  case athrow =>
    rcases sm_r1_s S with h | ⟨q, r, rfl⟩
    · exact lim_n fun _ _ _ => h _
    · exact lim_rq fun _ _ => lim_h _ fun _ _ _ => rfl
  case getstatic i => rcases a with ⟨_ | _ | a, b⟩ <;> exact lim_x _ _ _ fun _ _ _ => rfl
  case ldc i => rcases a with ⟨_ | a, b⟩ <;> exact lim_x _ _ _ fun _ _ _ => rfl
  case ldc_w i => rcases a with ⟨_ | a, b⟩ <;> exact lim_x _ _ _ fun _ _ _ => rfl
  case goto o => exact lim_j _ _ _ _ fun _ _ _ => rfl
  case iinc i n =>
    refine lim_ld (F := fun v nx _ _ => match v with
      | .inl x => nx (sm_st1 L i (vI (x + Int32.ofInt n))) S σ
      | _ => none) fun v => ?_
    rcases v with x | x | x | x <;> first | exact lim_n fun _ _ _ => rfl | exact lim_x _ _ _ fun _ _ _ => rfl
  case iload i =>
    exact lim_ld (F := fun v nx _ _ => nx L (v :: S) σ) fun v => lim_x _ _ _ fun _ _ _ => rfl
  case iload_n i =>
    exact lim_ld (F := fun v nx _ _ => nx L (v :: S) σ) fun v => lim_x _ _ _ fun _ _ _ => rfl
  case lload i =>
    exact lim_ld (F := fun v nx _ _ => nx L (v :: S) σ) fun v => lim_x _ _ _ fun _ _ _ => rfl
  case lload_n i =>
    exact lim_ld (F := fun v nx _ _ => nx L (v :: S) σ) fun v => lim_x _ _ _ fun _ _ _ => rfl
  case aload i =>
    exact lim_ld (F := fun v nx _ _ => nx L (v :: S) σ) fun v => lim_x _ _ _ fun _ _ _ => rfl
  case aload_n i =>
    exact lim_ld (F := fun v nx _ _ => nx L (v :: S) σ) fun v => lim_x _ _ _ fun _ _ _ => rfl
  case ireturn =>
    rcases S with _ | ⟨v, _ | ⟨u, r⟩⟩
    · exact lim_n fun _ _ _ => rfl
    · rcases v with x | x | x | x <;> first | exact lim_n fun _ _ _ => rfl | exact lim_r (sm_rt a.1 x σ) (fun _ _ _ => rfl) (sm_rt_mo _ _)
    · rcases v with x | x | x | x <;> exact lim_n fun _ _ _ => rfl
  case lreturn =>
    rcases S with _ | ⟨v, _ | ⟨u, r⟩⟩
    · exact lim_n fun _ _ _ => rfl
    · rcases v with x | x | x | x <;> first | exact lim_n fun _ _ _ => rfl | exact lim_r _ fun _ _ _ => rfl
    · rcases v with x | x | x | x <;> exact lim_n fun _ _ _ => rfl
  case areturn =>
    rcases S with _ | ⟨v, _ | ⟨u, r⟩⟩
    · exact lim_n fun _ _ _ => rfl
    · rcases v with x | x | x | x <;> first | exact lim_n fun _ _ _ => rfl | exact lim_r _ fun _ _ _ => rfl
    · rcases v with x | x | x | x <;> exact lim_n fun _ _ _ => rfl
  case return_ =>
    rcases S with _ | ⟨v, r⟩
    · exact lim_r _ fun _ _ _ => rfl
    · exact lim_n fun _ _ _ => rfl
  all_goals first
    | exact lim_n fun _ _ _ => rfl
    | exact lim_x _ _ _ fun _ _ _ => rfl
    | (rcases sm_p1_s S with h | ⟨x, r, rfl⟩
       · exact lim_n fun _ _ _ => h _
       · exact lim_x _ _ _ fun _ _ _ => rfl)
    | (rcases sm_p2_s S with h | ⟨x, y, r, rfl⟩
       · exact lim_n fun _ _ _ => h _
       · exact lim_x _ _ _ fun _ _ _ => rfl)
    | (rcases sm_q1_s S with h | ⟨x, r, rfl⟩
       · exact lim_n fun _ _ _ => h _
       · exact lim_x _ _ _ fun _ _ _ => rfl)
    | (rcases sm_q2_s S with h | ⟨x, y, r, rfl⟩
       · exact lim_n fun _ _ _ => h _
       · exact lim_x _ _ _ fun _ _ _ => rfl)
    | (rcases sm_r1_s S with h | ⟨x, r, rfl⟩
       · exact lim_n fun _ _ _ => h _
       · exact lim_x _ _ _ fun _ _ _ => rfl)
variable {Z : sm_T} {P : sm_P} {w : Bool} {C : sm_C} {m : Nat}
theorem sm_run_mo (hC : ∀ m a s o t, C m a s = some (o, t) → sm_mo s t) : ∀ (n : Nat) {pc : Nat} {L S : List sm_V} {σ : sm_S} {o : sm_O} {s : sm_S}, sm_run Z P w C m n pc L S σ = some (o, s) → sm_mo σ s
  | 0, _, _, _, _, _, _, h => by cases h
  | n + 1, pc, L, S, σ, o, s, h => by
    rw [sm_run] at h
    cases hf : sm_find pc (P.1 m) with
    | none => rw [hf] at h; cases h
    | some e =>
      rw [hf] at h
      dsimp only at h
      unfold sm_at at h
      rcases sm_I_mo (σ := σ) Z w C hC e.2.1 e.2.2.2.1 e.1 (sm_lv e L) S with ⟨r0, hm, q⟩ | ⟨L1, S1, s1, hm, q⟩ | ⟨t, L1, S1, s1, hm, q⟩ | ⟨s1, hm, q⟩ <;> dsimp only at q
      · rw [q] at h; exact hm _ _ h
      · rw [q] at h
        have k := sm_run_mo hC n h
        exact mo_trans hm k
      · rw [q] at h
        have k := sm_run_mo hC n h
        exact mo_trans hm k
      · rw [q] at h
        unfold sm_hx at h
        cases hh : P.2.2 m e.1 with
        | none => rw [hh] at h; cases h; exact hm
        | some z =>
          rw [hh] at h
          have k := sm_run_mo hC n h
          exact mo_trans hm k
end
