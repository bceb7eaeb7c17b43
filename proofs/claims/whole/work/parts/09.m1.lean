section
/-! THE SMALL MACHINE. Values: an int, a long, a reference (tag, number); (0, 0) is null; or nothing of use. -/
abbrev sm_V : Type := Int32 ⊕ (Int64 ⊕ ((Nat × Nat) ⊕ Unit))
abbrev vI (x : Int32) : sm_V := Sum.inl x
abbrev vL (x : Int64) : sm_V := Sum.inr (Sum.inl x)
abbrev vP (q : Nat × Nat) : sm_V := Sum.inr (Sum.inr (Sum.inl q))
abbrev vU : sm_V := Sum.inr (Sum.inr (Sum.inr ()))
abbrev vN : sm_V := vP (0, 0)
/-- the state: ints, longs, references by (tag, number, place); lengths of rows whose length is free; how many of each tag; their order of making; cells and slots made -/
abbrev sm_S : Type := (Nat → Nat → Nat → Int32) × (Nat → Nat → Nat → Int64) × (Nat → Nat → Nat → Nat × Nat) × (Nat → Nat → Nat) × (Nat → Nat) × (Nat → Nat → Nat) × Nat × Nat
/-- how a method ends: none: it threw; some none: nothing given -/
abbrev sm_O : Type := Option (Option sm_V)
abbrev sm_R : Type := Option (sm_O × sm_S)
abbrev sm_C : Type := Nat → List sm_V → sm_S → sm_R
def sm_up3 {α : Type} (f : Nat → Nat → Nat → α) (t i k : Nat) (v : α) : Nat → Nat → Nat → α := fun t' i' k' => if t' = t ∧ i' = i ∧ k' = k then v else f t' i' k'
def sm_up2 {α : Type} (f : Nat → Nat → α) (t i : Nat) (v : α) : Nat → Nat → α := fun t' i' => if t' = t ∧ i' = i then v else f t' i'
def sm_up1 {α : Type} (f : Nat → α) (t : Nat) (v : α) : Nat → α := fun t' => if t' = t then v else f t'
def sI (σ : sm_S) (t i k : Nat) (v : Int32) : sm_S := (sm_up3 σ.1 t i k v, σ.2)
def sL (σ : sm_S) (t i k : Nat) (v : Int64) : sm_S := (σ.1, sm_up3 σ.2.1 t i k v, σ.2.2)
def sR (σ : sm_S) (t i k : Nat) (v : Nat × Nat) : sm_S := (σ.1, σ.2.1, sm_up3 σ.2.2.1 t i k v, σ.2.2.2)
/-- a new cell of tag t, with n slots, its own length m -/
def sN (σ : sm_S) (t n m : Nat) : sm_S := (σ.1, σ.2.1, σ.2.2.1, sm_up2 σ.2.2.2.1 t (σ.2.2.2.2.1 t) m, sm_up1 σ.2.2.2.2.1 t (σ.2.2.2.2.1 t + 1), sm_up2 σ.2.2.2.2.2.1 t (σ.2.2.2.2.1 t) σ.2.2.2.2.2.2.1, σ.2.2.2.2.2.2.1 + 1, σ.2.2.2.2.2.2.2 + n)
/-- a row of ints gets n ints of a table from its place d on -/
def sC (σ : sm_S) (t i d n : Nat) (f : Nat → Int32) : sm_S := (fun t' i' k' => if t' = t ∧ i' = i ∧ d ≤ k' ∧ k' < d + n then f (k' - d) else σ.1 t' i' k', σ.2)
def sm_nth : List sm_V → Nat → sm_V
  | [], _ => vU
  | v :: _, 0 => v
  | _ :: r, n + 1 => sm_nth r n
def sm_set : List sm_V → Nat → sm_V → List sm_V
  | [], _, _ => []
  | _ :: r, 0, v => v :: r
  | x :: r, n + 1, v => x :: sm_set r n v
def sm_isL (v : sm_V) : Bool := match v with
  | .inr (.inl _) => true
  | _ => false
def sm_cat1 (v : sm_V) : Nat := match v with
  | .inr (.inl _) => 2
  | _ => 1
def sm_cat : List sm_V → Nat
  | [] => 0
  | v :: r => sm_cat1 v + sm_cat r
/-- a value of one word goes to local i -/
def sm_st1 (L : List sm_V) (i : Nat) (v : sm_V) : List sm_V := match i with
  | 0 => sm_set L 0 v
  | j + 1 => bif sm_isL (sm_nth L j) then sm_set (sm_set L j vU) (j + 1) v else sm_set L (j + 1) v
def sm_st2 (L : List sm_V) (i : Nat) (v : sm_V) : List sm_V := sm_set (sm_st1 L i v) (i + 1) vU
/-- locals that are of no more use -/
def sm_mask : Nat → List Nat → List sm_V → List sm_V
  | _, _, [] => []
  | n, live, v :: r => (bif live.contains n then v else vU) :: sm_mask (n + 1) live r
def sm_tg (pc : Nat) (off : Int) : Nat := ((pc : Int) + off).toNat
def sm_sw (x : Int32) (jp : Nat → sm_R) (dflt : Nat) : List (Int32 × Nat) → sm_R
  | [] => jp dflt
  | q :: r => if x = q.1 then jp q.2 else sm_sw x jp dflt r
def sm_ix (x : Int32) (n : Nat) (k : Nat → sm_R) : sm_R := if x < 0 ∨ n ≤ x.toNatClampNeg then none else k x.toNatClampNeg
def sm_rq (q : Nat × Nat) (t : Nat) (k : Nat → sm_R) : sm_R := if q.1 = t then k q.2 else none
def sm_p1 (S : List sm_V) (k : Int32 → List sm_V → sm_R) : sm_R := match S with
  | .inl x :: r => k x r
  | _ => none
def sm_p2 (S : List sm_V) (k : Int32 → Int32 → List sm_V → sm_R) : sm_R := match S with
  | .inl y :: .inl x :: r => k x y r
  | _ => none
def sm_q1 (S : List sm_V) (k : Int64 → List sm_V → sm_R) : sm_R := match S with
  | .inr (.inl x) :: r => k x r
  | _ => none
def sm_q2 (S : List sm_V) (k : Int64 → Int64 → List sm_V → sm_R) : sm_R := match S with
  | .inr (.inl y) :: .inr (.inl x) :: r => k x y r
  | _ => none
def sm_r1 (S : List sm_V) (k : Nat × Nat → List sm_V → sm_R) : sm_R := match S with
  | .inr (.inr (.inl q)) :: r => k q r
  | _ => none
def sm_r2 (S : List sm_V) (k : Nat × Nat → Nat × Nat → List sm_V → sm_R) : sm_R := match S with
  | .inr (.inr (.inl y)) :: .inr (.inr (.inl x)) :: r => k x y r
  | _ => none
/-- an index over a row; an int, a long, a reference over these -/
def sm_a0 (S : List sm_V) (k : Nat × Nat → Int32 → List sm_V → sm_R) : sm_R := match S with
  | .inl j :: .inr (.inr (.inl q)) :: r => k q j r
  | _ => none
def sm_aI (S : List sm_V) (k : Nat × Nat → Int32 → Int32 → List sm_V → sm_R) : sm_R := match S with
  | .inl x :: .inl j :: .inr (.inr (.inl q)) :: r => k q j x r
  | _ => none
def sm_aL (S : List sm_V) (k : Nat × Nat → Int32 → Int64 → List sm_V → sm_R) : sm_R := match S with
  | .inr (.inl x) :: .inl j :: .inr (.inr (.inl q)) :: r => k q j x r
  | _ => none
def sm_aR (S : List sm_V) (k : Nat × Nat → Int32 → Nat × Nat → List sm_V → sm_R) : sm_R := match S with
  | .inr (.inr (.inl x)) :: .inl j :: .inr (.inr (.inl q)) :: r => k q j x r
  | _ => none
/-- how a call's answer is taken -/
def sm_bV (a : sm_R) (hx : sm_S → sm_R) (k : sm_S → sm_R) : sm_R := match a with
  | some (some none, s) => k s
  | some (none, s) => hx s
  | _ => none
def sm_bI (a : sm_R) (hx : sm_S → sm_R) (k : Int32 → sm_S → sm_R) : sm_R := match a with
  | some (some (some (.inl x)), s) => k x s
  | some (none, s) => hx s
  | _ => none
def sm_bL (a : sm_R) (hx : sm_S → sm_R) (k : Int64 → sm_S → sm_R) : sm_R := match a with
  | some (some (some (.inr (.inl x))), s) => k x s
  | some (none, s) => hx s
  | _ => none
def sm_bP (a : sm_R) (hx : sm_S → sm_R) (k : Nat × Nat → sm_S → sm_R) : sm_R := match a with
  | some (some (some (.inr (.inr (.inl q)))), s) => k q s
  | some (none, s) => hx s
  | _ => none
def sm_take : Nat → List sm_V → List sm_V → Option (List sm_V × List sm_V)
  | 0, acc, S => some (acc, S)
  | n + 1, acc, v :: S => sm_take n (v :: acc) S
  | _ + 1, _, [] => none
end
