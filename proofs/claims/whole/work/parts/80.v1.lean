section
/-! THE READING OF A TEXT, AS BOTH SIDES DO IT (a pure telling). An item of code: op (the class's; 33 try, 34 tried, 35 drop of nothing), arg, target, place, the type it gives or wants, and what is known ahead of it: types that wait, names (slot, type), what the proc gives, tries that are begun -/
abbrev zG : Type := List Int32 × List (Nat × Int32) × Int32 × List Nat
abbrev zI : Type := Nat × Int32 × Nat × Int32 × Int32 × zG
/-- a proc: name, what it gives, parameters, first item -/
abbrev zP : Type := List Int32 × Int32 × List Int32 × Nat
/-- token position; items; what waits (op, arg, place, type); shape; names known (name, type, slot); made; being made; procs; begun; begun tries; catches; begun; braces; types that wait -/
abbrev zA : Type := Nat × List zI × (Nat × Int32 × Int32 × Int32) × Nat × List (List Int32 × Int32 × Nat) × Nat × Option (List Int32 × Int32) × List zP × Nat × List Nat × List Nat × Nat × Nat × List Int32
abbrev a_p (a : zA) : Nat := a.1
abbrev a_i (a : zA) : List zI := a.2.1
abbrev a_w (a : zA) : Nat × Int32 × Int32 × Int32 := a.2.2.1
abbrev a_s (a : zA) : Nat := a.2.2.2.1
abbrev a_k (a : zA) : List (List Int32 × Int32 × Nat) := a.2.2.2.2.1
abbrev a_m (a : zA) : Nat := a.2.2.2.2.2.1
abbrev a_x (a : zA) : Option (List Int32 × Int32) := a.2.2.2.2.2.2.1
abbrev a_q (a : zA) : List zP := a.2.2.2.2.2.2.2.1
abbrev a_b (a : zA) : Nat := a.2.2.2.2.2.2.2.2.1
abbrev a_h (a : zA) : List Nat := a.2.2.2.2.2.2.2.2.2.1
abbrev a_c (a : zA) : List Nat := a.2.2.2.2.2.2.2.2.2.2.1
abbrev a_o (a : zA) : Nat := a.2.2.2.2.2.2.2.2.2.2.2.1
abbrev a_r (a : zA) : Nat := a.2.2.2.2.2.2.2.2.2.2.2.2.1
abbrev a_t (a : zA) : List Int32 := a.2.2.2.2.2.2.2.2.2.2.2.2.2
def aP (a : zA) (v : Nat) : zA := (v, a.2)
def aI (a : zA) (v : List zI) : zA := (a.1, v, a.2.2)
def aW (a : zA) (v : Nat × Int32 × Int32 × Int32) : zA := (a.1, a.2.1, v, a.2.2.2)
def aS (a : zA) (v : Nat) : zA := (a.1, a.2.1, a.2.2.1, v, a.2.2.2.2)
def aK (a : zA) (v : List (List Int32 × Int32 × Nat)) : zA := (a.1, a.2.1, a.2.2.1, a.2.2.2.1, v, a.2.2.2.2.2)
def aM (a : zA) (v : Nat) : zA := (a.1, a.2.1, a.2.2.1, a.2.2.2.1, a.2.2.2.2.1, v, a.2.2.2.2.2.2)
def aX (a : zA) (v : Option (List Int32 × Int32)) : zA := (a.1, a.2.1, a.2.2.1, a.2.2.2.1, a.2.2.2.2.1, a.2.2.2.2.2.1, v, a.2.2.2.2.2.2.2)
def aQ (a : zA) (v : List zP) : zA := (a.1, a.2.1, a.2.2.1, a.2.2.2.1, a.2.2.2.2.1, a.2.2.2.2.2.1, a.2.2.2.2.2.2.1, v, a.2.2.2.2.2.2.2.2)
def aB (a : zA) (v : Nat) : zA := (a.1, a.2.1, a.2.2.1, a.2.2.2.1, a.2.2.2.2.1, a.2.2.2.2.2.1, a.2.2.2.2.2.2.1, a.2.2.2.2.2.2.2.1, v, a.2.2.2.2.2.2.2.2.2)
def aH (a : zA) (v : List Nat) : zA := (a.1, a.2.1, a.2.2.1, a.2.2.2.1, a.2.2.2.2.1, a.2.2.2.2.2.1, a.2.2.2.2.2.2.1, a.2.2.2.2.2.2.2.1, a.2.2.2.2.2.2.2.2.1, v, a.2.2.2.2.2.2.2.2.2.2)
def aC (a : zA) (v : List Nat) : zA := (a.1, a.2.1, a.2.2.1, a.2.2.2.1, a.2.2.2.2.1, a.2.2.2.2.2.1, a.2.2.2.2.2.2.1, a.2.2.2.2.2.2.2.1, a.2.2.2.2.2.2.2.2.1, a.2.2.2.2.2.2.2.2.2.1, v, a.2.2.2.2.2.2.2.2.2.2.2)
def aO (a : zA) (v : Nat) : zA := (a.1, a.2.1, a.2.2.1, a.2.2.2.1, a.2.2.2.2.1, a.2.2.2.2.2.1, a.2.2.2.2.2.2.1, a.2.2.2.2.2.2.2.1, a.2.2.2.2.2.2.2.2.1, a.2.2.2.2.2.2.2.2.2.1, a.2.2.2.2.2.2.2.2.2.2.1, v, a.2.2.2.2.2.2.2.2.2.2.2.2)
def aR (a : zA) (v : Nat) : zA := (a.1, a.2.1, a.2.2.1, a.2.2.2.1, a.2.2.2.2.1, a.2.2.2.2.2.1, a.2.2.2.2.2.2.1, a.2.2.2.2.2.2.2.1, a.2.2.2.2.2.2.2.2.1, a.2.2.2.2.2.2.2.2.2.1, a.2.2.2.2.2.2.2.2.2.2.1, a.2.2.2.2.2.2.2.2.2.2.2.1, v, a.2.2.2.2.2.2.2.2.2.2.2.2.2)
def aT (a : zA) (v : List Int32) : zA := (a.1, a.2.1, a.2.2.1, a.2.2.2.1, a.2.2.2.2.1, a.2.2.2.2.2.1, a.2.2.2.2.2.2.1, a.2.2.2.2.2.2.2.1, a.2.2.2.2.2.2.2.2.1, a.2.2.2.2.2.2.2.2.2.1, a.2.2.2.2.2.2.2.2.2.2.1, a.2.2.2.2.2.2.2.2.2.2.2.1, a.2.2.2.2.2.2.2.2.2.2.2.2.1, v)
/-- a fault at a token, or a value and what has been read -/
abbrev zR : Type := (Int32 × Nat) ⊕ (Int32 × zA)
def pb (r : zR) (k : Int32 → zA → zR) : zR := match r with
  | .inl e => .inl e
  | .inr x => k x.1 x.2
/-- the tokens: kind, name, number -/
abbrev zT : Type := (Nat → Int32) × (Nat → List Int32) × (Nat → Int64) × (Nat → Int32)
/-- what is known now -/
def gNow (a : zA) : zG := (a_t a, (a_k a).map (fun e => (e.2.2, e.2.1)), ((a_q a).getLast?.map (fun q => q.2.1)).getD 38, a_h a)
/-- the parameters of a proc; what it gives -/
def qPar (ps : List zP) (q : Int32) : List Int32 := if q < 12 then ((ps[q.toNatClampNeg]?).map (fun e => e.2.2.1)).getD [] else if q = 12 then [36] else if q = 13 then [36, 18] else if q = 14 then [18, 18] else if q = 15 then [18, 36, 36] else []
def qGiv (ps : List zP) (q : Int32) : Int32 := if q < 12 then ((ps[q.toNatClampNeg]?).map (fun e => e.2.1)).getD 38 else if q = 12 then 18 else 36
/-- how many values an item takes; whether it gives one -/
def zPops (ps : List zP) (op : Nat) (arg : Int32) : Nat := match op with
  | 1 => 1 | 6 => 1 | 7 => 2 | 8 => 2 | 9 => 2 | 10 => 2 | 11 => 2 | 12 => 2 | 13 => 1 | 14 => 1 | 15 => 2 | 16 => 3 | 17 => 1 | 18 => 2 | 19 => 1 | 21 => 1 | 22 => 1 | 23 => 1 | 24 => arg.toNatClampNeg | 25 => 1 | 26 => 1
  | 27 => (qPar ps (arg - 5)).length | 28 => 1 | 29 => 2 | 30 => 2 | 31 => 3 | 35 => 1 | _ => 0
def zPush (op : Nat) : Bool := match op with
  | 4 => true | 5 => true | 7 => true | 8 => true | 9 => true | 10 => true | 11 => true | 12 => true | 13 => true | 14 => true | 15 => true | 17 => true | 19 => true | 20 => true | 21 => true | 27 => true | 28 => true | 29 => true | 30 => true | 31 => true | 32 => true | _ => false
def effS (ps : List zP) (op : Nat) (arg ty : Int32) (S : List Int32) : List Int32 := (bif zPush op then [ty] else []) ++ S.drop (zPops ps op arg)
/-- one more item -/
def zE (a : zA) (op : Nat) (arg : Int32) (tgt : Nat) (ty pl : Int32) : zA := aT (aI a (a_i a ++ [(op, arg, tgt, pl, ty, gNow a)])) (effS (a_q a) op arg ty (a_t a))
/-- an item's target is set -/
def zX (a : zA) (k tgt : Nat) : zA := aI a ((a_i a).modify k (fun e => (e.1, e.2.1, tgt, e.2.2.2)))
def zN (a : zA) : zR := if a_p a = 800 then .inl (5, 800) else .inr (0, aP a (a_p a + 1))
section
variable (T : zT)
/-- a type's number -/
def tV (p : Nat) : Int32 := (T.2.2.1 p).toInt32
def zMust (c : Int32) (a : zA) : zR := if T.1 (a_p a) = c then zN a else .inl (1, a_p a)
def zOpens (c : Int32) (a : zA) : zR := if T.1 (a_p a) = c ∧ a_o a < 10 then zN (aO a (a_o a + 1)) else .inl (1, a_p a)
def zTy (a : zA) : zR := if T.1 (a_p a) = 5 then pb (zN a) (fun _ a1 => if tV T (a_p a) = 36 then .inr (tV T (a_p a), a1) else if T.1 (a_p a1) = 91 then pb (zN a1) (fun _ a2 => pb (zMust T 93 a2) (fun _ a3 => .inr (18 + tV T (a_p a), a3))) else .inr (tV T (a_p a), a1)) else .inl (1, a_p a)
/-- what waits is read -/
def zReads (a : zA) : zA := if (a_w a).1 = 5 ∨ (a_w a).1 = 15 ∨ (a_w a).1 = 17 then aW (zE a (a_w a).1 (a_w a).2.1 0 (a_w a).2.2.2 (a_w a).2.2.1) (0, 0, 0, 0) else aW a (0, 0, 0, 0)
/-- shapes: 0 a value, 1 a name, 2 a place, 3 a field, 4 a call -/
def zNum (p0 : Nat) (v : Int32) (a : zA) : zR := pb (zN (zE a 4 v 0 36 (T.2.2.2 p0))) (fun _ a1 => .inr (36, a1))
/-- a name among those known: its slot and type -/
def kFind (n : List Int32) : List (List Int32 × Int32 × Nat) → Option (Int32 × Nat)
  | [] => none
  | e :: r => if e.1 = n then some e.2 else kFind n r
/-- a proc by its name: own ones from 0 on, the five from 12 on -/
def qFind (n : List Int32) : List zP → Nat → Option Nat
  | [], _ => none
  | e :: r, i => if e.1 = n then some i else qFind n r (i + 1)
def pFind (n : List Int32) (q : List zP) : Int32 := match qFind n q 0 with
  | some i => Int32.ofNat i
  | none => whr n sm_fives 12
/-- the arguments of a call, from number i on -/
def zArgs (sub : zA → zR) (ps : List Int32) : Nat → Nat → zA → zR
  | 0, _, _ => .inl (0, 0)
  | f + 1, i, a => pb (sub a) (fun t a1 => if T.1 (a_p a1) = 44 ∨ T.1 (a_p a1) = 41 then (if i < ps.length ∧ cFit t (ps.getD i 38) = 1 then (if T.1 (a_p a1) = 44 then pb (zN a1) (fun _ a2 => zArgs sub ps f (i + 1) a2) else .inr (Int32.ofNat (i + 1), a1)) else .inl (4, a_p a1)) else .inl (1, a_p a1))
def zCall (sub : zA → zR) (a : zA) : zR :=
  if pFind (T.2.1 (a_p a)) (a_q a) = -1 then .inl (2, a_p a) else
  pb (zN a) (fun _ a1 => pb (zOpens T 40 a1) (fun _ a2 =>
    pb (if T.1 (a_p a2) = 41 then .inr (0, a2) else zArgs T sub (qPar (a_q a) (pFind (T.2.1 (a_p a)) (a_q a))) 801 0 a2) (fun n a3 =>
      if n = Int32.ofNat (qPar (a_q a) (pFind (T.2.1 (a_p a)) (a_q a))).length then
        pb (zN (aO a3 (a_o a3 - 1))) (fun _ a4 => .inr (qGiv (a_q a) (pFind (T.2.1 (a_p a)) (a_q a)),
          aS (if pFind (T.2.1 (a_p a)) (a_q a) < 12
            then zE a4 27 (pFind (T.2.1 (a_p a)) (a_q a) + 5) 0 (qGiv (a_q a) (pFind (T.2.1 (a_p a)) (a_q a))) (T.2.2.2 (a_p a))
            else zE a4 (pFind (T.2.1 (a_p a)) (a_q a) + 16).toNatClampNeg 0 0 (qGiv (a_q a) (pFind (T.2.1 (a_p a)) (a_q a))) (T.2.2.2 (a_p a))) 4))
      else .inl (4, a_p a3))))
def zNew (sub : zA → zR) (a : zA) : zR :=
  pb (zN a) (fun _ a1 => if T.1 (a_p a1) = 5 ∧ tV T (a_p a1) ≠ 36 then
    pb (zN a1) (fun _ a2 => if T.1 (a_p a2) = 40 ∧ tV T (a_p a1) < 13 then
        pb (zOpens T 40 a2) (fun _ a3 => if T.1 (a_p a3) = 41 then pb (zN (aO a3 (a_o a3 - 1))) (fun _ a4 => .inr (tV T (a_p a1), aS (zE a4 20 (tV T (a_p a1)) 0 (tV T (a_p a1)) (T.2.2.2 (a_p a))) 0)) else .inl (1, a_p a3))
      else pb (zOpens T 91 a2) (fun _ a3 => pb (sub a3) (fun t a4 => if T.1 (a_p a4) = 93 then (if t = 36 then pb (zN (aO a4 (a_o a4 - 1))) (fun _ a5 => .inr (18 + tV T (a_p a1), aS (zE a5 21 (tV T (a_p a1)) 0 (18 + tV T (a_p a1)) (T.2.2.2 (a_p a))) 0)) else .inl (4, a_p a4)) else .inl (1, a_p a4))))
    else .inl (1, a_p a1))
def zFst (sub : zA → zR) (a : zA) : zR :=
  if T.1 (a_p a) = 4 then zNum T (a_p a) (T.2.2.1 (a_p a)).toInt32 a
  else if T.1 (a_p a) = 45 then pb (zN a) (fun _ a1 => if T.1 (a_p a1) = 4 then zNum T (a_p a) (-(T.2.2.1 (a_p a1)).toInt32) a1 else .inl (1, a_p a1))
  else if T.1 (a_p a) = 211 then pb (zN (zE a 4 0 0 37 (T.2.2.2 (a_p a)))) (fun _ a1 => .inr (37, a1))
  else if T.1 (a_p a) = 210 then zNew T sub a
  else if T.1 (a_p a) = 40 then pb (zOpens T 40 a) (fun _ a1 => pb (sub a1) (fun t a2 => if T.1 (a_p a2) = 41 then pb (zN (aO a2 (a_o a2 - 1))) (fun _ a3 => .inr (t, aS a3 0)) else .inl (1, a_p a2)))
  else if T.1 (a_p a) = 3 then
    (if T.1 (a_p a + 1) = 40 then zCall T sub a else match kFind (T.2.1 (a_p a)) (a_k a) with
      | none => .inl (2, a_p a)
      | some e => pb (zN a) (fun _ a1 => .inr (e.1, aW (aS a1 1) (5, Int32.ofNat e.2, T.2.2.2 (a_p a), e.1))))
  else .inl (1, a_p a)
def zFirst (sub : zA → zR) (a : zA) : zR := zFst T sub (aW (aS a 0) (0, 0, 0, 0))
def zIdx (sub : zA → zR) (t : Int32) (a : zA) : zR :=
  pb (zOpens T 91 (zReads a)) (fun _ a1 => pb (sub a1) (fun u a2 => if T.1 (a_p a2) = 93 then (if (¬ t < 18 ∧ t < 36) ∧ u = 36 then pb (zN (aO a2 (a_o a2 - 1))) (fun _ a3 => .inr (t - 18, aW (aS a3 2) (15, 0, T.2.2.2 (a_p a), t - 18))) else .inl (4, a_p a2)) else .inl (1, a_p a2)))
def fOwn (f : Int32) : Int32 := if f < 3 then 0 else if f = 3 then 15 else if f = 4 then 1 else if f = 5 then 13 else if f = 6 then 14 else if f = 7 then 16 else 17
def zMem (t : Int32) (a : zA) : zR :=
  pb (zN (zReads a)) (fun _ a1 => if T.1 (a_p a1) = 214 then (if ¬ t < 18 ∧ t < 36 then pb (zN (zE a1 19 0 0 36 (T.2.2.2 (a_p a1)))) (fun _ a2 => .inr (36, aS a2 0)) else .inl (4, a_p a1))
    else if T.1 (a_p a1) = 3 then (if whr (T.2.1 (a_p a1)) sm_fields 0 = -1 then .inl (2, a_p a1) else if cFit t (fOwn (whr (T.2.1 (a_p a1)) sm_fields 0)) = 1 then pb (zN a1) (fun _ a2 => .inr (if whr (T.2.1 (a_p a1)) sm_fields 0 = 1 then 0 else 36, aW (aS a2 3) (17, whr (T.2.1 (a_p a1)) sm_fields 0, T.2.2.2 (a_p a1), if whr (T.2.1 (a_p a1)) sm_fields 0 = 1 then 0 else 36))) else .inl (4, a_p a1))
    else .inl (1, a_p a1))
/-- behind as and is: the type, judged at its last token -/
def zAskT (t : Int32) (a1 : zA) (k : Int32 → zA → zR) : zR :=
  if T.1 (a_p a1) = 5 then
    (if tV T (a_p a1) ≠ 36 ∧ T.1 (a_p a1 + 1) = 91 then pb (zN a1) (fun _ a2 => pb (zN a2) (fun _ a3 => if T.1 (a_p a3) = 93 then (if cAsk t (18 + tV T (a_p a1)) = 1 then pb (zN a3) (fun _ a4 => k (18 + tV T (a_p a1)) a4) else .inl (4, a_p a3)) else .inl (1, a_p a3)))
    else if cAsk t (tV T (a_p a1)) = 1 then pb (zN a1) (fun _ a2 => k (tV T (a_p a1)) a2) else .inl (4, a_p a1))
  else .inl (1, a_p a1)
def zAsk (t : Int32) (a : zA) : zR :=
  pb (zN (zReads a)) (fun _ a1 => zAskT T t a1 (fun u a2 => if T.1 (a_p a) = 213 then .inr (u, aS (zE a2 13 u 0 u (T.2.2.2 (a_p a))) 0) else .inr (36, aS (zE a2 14 u 0 36 (T.2.2.2 (a_p a))) 0)))
def zUL (sub : zA → zR) : Nat → Int32 → zA → zR
  | 0, _, _ => .inl (0, 0)
  | f + 1, t, a => if T.1 (a_p a) = 91 then pb (zIdx T sub t a) (zUL sub f) else if T.1 (a_p a) = 46 then pb (zMem T t a) (zUL sub f) else if T.1 (a_p a) = 213 ∨ T.1 (a_p a) = 212 then pb (zAsk T t a) (zUL sub f) else .inr (t, a)
def zUnit (sub : zA → zR) (a : zA) : zR := pb (zFirst T sub a) (zUL T sub 801)
def zUV (sub : zA → zR) (a : zA) : zR := pb (zUnit T sub a) (fun t a1 => .inr (t, zReads a1))
def zPL (sub : zA → zR) : Nat → Int32 → zA → zR
  | 0, _, _ => .inl (0, 0)
  | f + 1, t, a => if T.1 (a_p a) = 42 then (if t = 36 then pb (zN a) (fun _ a1 => pb (zUV T sub a1) (fun u a2 => if u = 36 then zPL sub f 36 (zE a2 9 0 0 36 (T.2.2.2 (a_p a))) else .inl (4, a_p a))) else .inl (4, a_p a)) else .inr (t, a)
def zProd (sub : zA → zR) (a : zA) : zR := pb (zUV T sub a) (zPL T sub 801)
def zSL (sub : zA → zR) : Nat → Int32 → zA → zR
  | 0, _, _ => .inl (0, 0)
  | f + 1, t, a => if T.1 (a_p a) = 43 ∨ T.1 (a_p a) = 45 then (if t = 36 then pb (zN a) (fun _ a1 => pb (zProd T sub a1) (fun u a2 => if u = 36 then zSL sub f 36 (zE a2 (if T.1 (a_p a) = 43 then 7 else 8) 0 0 36 (T.2.2.2 (a_p a))) else .inl (4, a_p a))) else .inl (4, a_p a)) else .inr (t, a)
def zSum (sub : zA → zR) (a : zA) : zR := pb (zProd T sub a) (zSL T sub 801)
def zEx (sub : zA → zR) (a : zA) : zR :=
  pb (zSum T sub a) (fun t a1 => if T.1 (a_p a1) = 1 ∨ T.1 (a_p a1) = 2 ∨ T.1 (a_p a1) = 60 then
      (if t = 36 ∨ (T.1 (a_p a1) ≠ 60 ∧ cRef t = 1) then pb (zN a1) (fun _ a2 => pb (zSum T sub a2) (fun u a3 => if (if t = 36 then u = 36 else cRef u = 1) then .inr (36, zE a3 (if T.1 (a_p a1) = 60 then 12 else if T.1 (a_p a1) = 1 then 10 else 11) 0 0 36 (T.2.2.2 (a_p a1))) else .inl (4, a_p a1))) else .inl (4, a_p a1))
    else .inr (t, a1))
/-- an expression, n deep at most -/
def zX_ : Nat → zA → zR
  | 0, _ => .inl (0, 0)
  | n + 1, a => zEx T (zX_ n) a
def zExp (a : zA) : zR := zX_ T 11 a
/-! statements -/
/-- a new name may come here -/
def zFresh (a : zA) : zR := if T.1 (a_p a) = 3 then (match kFind (T.2.1 (a_p a)) (a_k a) with
  | some _ => .inl (3, a_p a)
  | none => if a_m a = 24 then .inl (5, a_p a) else .inr (0, a)) else .inl (1, a_p a)
def zKnow (n : List Int32) (t : Int32) (a : zA) : zA := aX (aM (aK a (a_k a ++ [(n, t, a_m a)])) (a_m a + 1)) none
/-- a new name is read: its slot -/
def zNewN (t : Int32) (a : zA) : zR := pb (zFresh T a) (fun _ a1 => pb (zN a1) (fun _ a2 => .inr (Int32.ofNat (a_m a), aX a2 (some (T.2.1 (a_p a), t)))))
def zVar (a : zA) : zR :=
  pb (zN a) (fun _ a1 => pb (zTy T a1) (fun t a2 => pb (zNewN T t a2) (fun sl a3 => pb (zMust T 61 a3) (fun _ a5 =>
    pb (zExp T a5) (fun u a6 => if T.1 (a_p a6) = 59 then (if cFit u t = 1 then pb (zN a6) (fun _ a7 => .inr (0, zKnow (T.2.1 (a_p a2)) t (zE a7 6 sl 0 t (T.2.2.2 (a_p a3))))) else .inl (4, a_p a6)) else .inl (1, a_p a6))))))
def zActs (a : zA) : zR :=
  pb (zUnit T (zX_ T 10) a) (fun t a1 => if T.1 (a_p a1) = 61 then
      (if a_s a1 = 1 ∨ a_s a1 = 2 ∨ a_s a1 = 3 then
        (if a_s a1 = 3 ∧ ((a_w a1).2.1 = 2 ∨ (a_w a1).2.1 = 3 ∨ (a_w a1).2.1 = 4) then .inl (4, a_p a1) else
          pb (zN (aW a1 (0, 0, 0, 0))) (fun _ a2 => pb (zExp T a2) (fun u a3 => if T.1 (a_p a3) = 59 then (if cFit u t = 1 then pb (zN a3) (fun _ a4 => .inr (0, zE a4 (if a_s a1 = 1 then 6 else if a_s a1 = 2 then 16 else 18) (a_w a1).2.1 0 t (T.2.2.2 (a_p a1)))) else .inl (4, a_p a3)) else .inl (1, a_p a3))))
      else .inl (1, a_p a1))
    else if T.1 (a_p a1) = 59 ∧ a_s a1 = 4 then pb (zN a1) (fun _ a2 => .inr (0, zE a2 (if t = 38 then 35 else 1) 0 0 0 (-1))) else .inl (1, a_p a1))
/-- the ( ) of if and while; p0: the word -/
def zCon (p0 : Nat) (a : zA) : zR :=
  pb (zOpens T 40 a) (fun _ a2 => pb (zX_ T 10 a2) (fun t a3 => if T.1 (a_p a3) = 41 then (if t = 36 then pb (zN (aO a3 (a_o a3 - 1))) (fun _ a4 => .inr (0, zE a4 26 0 0 0 (T.2.2.2 p0))) else .inl (4, a_p a3)) else .inl (1, a_p a3)))
def zCond (p0 : Nat) (a : zA) : zR := pb (zN a) (fun _ a1 => zCon T p0 a1)
def zRet (a : zA) : zR :=
  pb (zN a) (fun _ a1 => if T.1 (a_p a1) = 59 then (if (gNow a).2.2.1 = 38 then pb (zN a1) (fun _ a2 => .inr (0, zE a2 24 0 0 0 (T.2.2.2 (a_p a)))) else .inl (4, a_p a1))
    else pb (zExp T a1) (fun t a2 => if T.1 (a_p a2) = 59 then (if (gNow a).2.2.1 ≠ 38 ∧ cFit t (gNow a).2.2.1 = 1 then pb (zN a2) (fun _ a3 => .inr (0, zE a3 24 1 0 0 (T.2.2.2 (a_p a)))) else .inl (4, a_p a2)) else .inl (1, a_p a2)))
def zSay (a : zA) : zR :=
  pb (zN a) (fun _ a1 => pb (zExp T a1) (fun t a2 => if T.1 (a_p a2) = 59 then (if t = 36 ∨ cRef t = 1 then pb (zN a2) (fun _ a3 => .inr (0, zE a3 (if t = 36 then 22 else 23) 0 0 0 (T.2.2.2 (a_p a)))) else .inl (4, a_p a2)) else .inl (1, a_p a2)))
def zFail (a : zA) : zR :=
  pb (zN a) (fun _ a1 => pb (zExp T a1) (fun t a2 => if T.1 (a_p a2) = 59 then (if t = 36 then pb (zN a2) (fun _ a3 => .inr (0, zE a3 25 0 0 0 (T.2.2.2 (a_p a)))) else .inl (4, a_p a2)) else .inl (1, a_p a2)))
def zL (a : zA) : Nat := (a_i a).length
def zIf (blk : zA → zR) (a : zA) : zR :=
  pb (zCond T (a_p a) a) (fun _ a1 => pb (blk a1) (fun _ a2 => if T.1 (a_p a2) = 203 then
      pb (zN (zX (zE a2 0 0 0 0 (-1)) (zL a1 - 1) (zL a2 + 1))) (fun _ a3 => pb (blk a3) (fun _ a4 => .inr (0, zX a4 (zL a2) (zL a4))))
    else .inr (0, zX a2 (zL a1 - 1) (zL a2))))
def zWhile (blk : zA → zR) (a : zA) : zR :=
  pb (zCond T (a_p a) a) (fun _ a1 => pb (blk a1) (fun _ a2 => .inr (0, zX (zE a2 0 0 (zL a) 0 (-1)) (zL a1 - 1) (zL a2 + 1))))
/-- a try's catch is told -/
def zCat (k j tgt : Nat) (slot : Nat) (a : zA) : zA := aC (aI a ((a_i a).modify k (fun e => (e.1, Int32.ofNat slot, tgt, e.2.2.2)))) ((a_c a).set j tgt)
def zTry (blk : zA → zR) (a : zA) : zR :=
  pb (zN a) (fun _ a1 => pb (blk (aC (aH (zE a1 33 0 0 0 (-1)) (zL a1 :: a_h a1)) (a_c a1 ++ [zL a1]))) (fun _ a2 =>
    pb (zMust T 206 (zE (aH (zE a2 34 0 0 0 (-1)) (a_h a1)) 0 0 0 0 (-1))) (fun _ a3 => pb (zMust T 40 a3) (fun _ a4 => pb (zNewN T 36 a4) (fun sl a5 => pb (zMust T 41 a5) (fun _ a7 =>
      pb (blk (zKnow (T.2.1 (a_p a4)) 36 (zE (zCat (zL a1) (a_c a1).length (zL a7) (a_m a7) a7) 2 sl 0 36 (-1)))) (fun _ a8 => .inr (0, zX (aK a8 (a_k a7)) (zL a2 + 1) (zL a8)))))))))
def zSta (blk : zA → zR) (a : zA) : zR :=
  if T.1 (a_p a) = 201 then zVar T a else if T.1 (a_p a) = 202 then zIf T blk a else if T.1 (a_p a) = 204 then zWhile T blk a else if T.1 (a_p a) = 205 then zTry T blk a
  else if T.1 (a_p a) = 207 then zRet T a else if T.1 (a_p a) = 208 then zSay T a else if T.1 (a_p a) = 209 then zFail T a else zActs T a
def zStat (blk : zA → zR) (a : zA) : zR := zSta T blk (aO a 0)
def zStats (blk : zA → zR) : Nat → zA → zR
  | 0, _ => .inl (0, 0)
  | f + 1, a => if T.1 (a_p a) = 125 then .inr (0, a) else pb (zStat T blk a) (fun _ a1 => zStats blk f a1)
/-- a block, n deep at most -/
def zBlk : Nat → zA → zR
  | 0, _ => .inl (0, 0)
  | n + 1, a => if T.1 (a_p a) = 123 ∧ a_r a < 8 then pb (zN (aR a (a_r a + 1))) (fun _ a1 => pb (zStats T (zBlk n) 801 a1) (fun _ a2 => pb (zN (aR (aK a2 (a_k a1)) (a_r a2 - 1))) (fun _ a3 => .inr (0, a3)))) else .inl (1, a_p a)
/-! procs -/
def qLast (a : zA) (f : zP → zP) : zA := aQ a ((a_q a).modify ((a_q a).length - 1) f)
/-- one parameter -/
def zPar1 (a : zA) : zR := pb (zTy T a) (fun t a1 => if T.1 (a_p a1) = 3 then (match kFind (T.2.1 (a_p a1)) (a_k a1) with
      | some _ => .inl (3, a_p a1)
      | none => if (((a_q a1).getLast?.map (fun q => q.2.2.1.length)).getD 0) = 4 then .inl (5, a_p a1) else
        pb (zN (zKnow (T.2.1 (a_p a1)) t (qLast a1 (fun q => (q.1, q.2.1, q.2.2.1 ++ [t], q.2.2.2))))) (fun _ a2 => .inr (0, a2)))
    else .inl (1, a_p a1))
def zPars : Nat → zA → zR
  | 0, _ => .inl (0, 0)
  | f + 1, a => pb (zPar1 T a) (fun _ a2 => if T.1 (a_p a2) = 44 then pb (zN a2) (fun _ a3 => zPars f a3) else .inr (0, a2))
/-- a proc's name -/
def zPNm (a : zA) : zR := if T.1 (a_p a) = 3 then (if pFind (T.2.1 (a_p a)) (a_q a) = -1 then (if (a_q a).length = 12 then .inl (5, a_p a) else
      pb (zN (aQ a (a_q a ++ [(T.2.1 (a_p a), 38, [], zL a)]))) (fun _ a2 => .inr (0, a2))) else .inl (3, a_p a)) else .inl (1, a_p a)
/-- what a proc gives -/
def zGiv (a : zA) : zR := if T.1 (a_p a) = 58 then pb (zN a) (fun _ a6 => pb (zTy T a6) (fun t a7 => .inr (0, qLast a7 (fun q => (q.1, t, q.2.2))))) else .inr (0, a)
/-- a proc's head -/
def zHead (a : zA) : zR := pb (zMust T 200 a) (fun _ a1 => pb (zPNm T a1) (fun _ a2 => pb (zMust T 40 (aR (aM (aK a2 []) 0) 0)) (fun _ a3 =>
        pb (if T.1 (a_p a3) = 41 then .inr (0, a3) else zPars T 801 a3) (fun _ a4 => pb (zMust T 41 a4) (fun _ a5 => zGiv T a5)))))
def zProc (a : zA) : zR := pb (zHead T a) (fun _ a8 => pb (zBlk T 9 (aB a8 (a_b a8 + 1))) (fun _ a9 => .inr (0, zE a9 3 0 0 0 (-1))))
def zText : Nat → zA → zR
  | 0, _ => .inl (0, 0)
  | f + 1, a => pb (zProc T a) (fun _ a1 => if T.1 (a_p a1) = 6 then .inr (0, a1) else zText f a1)
end
end
