section
/-! THE YARDS AND THE MACHINE, ONE PURE TELLING. References are the class's numbers: 0 nothing, v + 1 a vehicle, -(n + 1) a row -/
/-- a vehicle: kind, fields by their numbers; a row: of, what is at its places -/
abbrev zVh : Type := Int32 × (Nat → Int32)
abbrev zRw : Type := Int32 × List Int32
/-- a train: row's number, goal, miles, speed, stage -/
abbrev zTn : Type := Nat × Nat × Int32 × Int32 × Int32
/-- vehicles, rows, stated kinds, rows on tracks, trains, clock, faults, said -/
abbrev zW : Type := List zVh × List zRw × (Nat → Int32) × (Nat → Int32) × List zTn × Int32 × Nat × List Int32
abbrev w_v (W : zW) : List zVh := W.1
abbrev w_r (W : zW) : List zRw := W.2.1
abbrev w_s (W : zW) : Nat → Int32 := W.2.2.1
abbrev w_t (W : zW) : Nat → Int32 := W.2.2.2.1
abbrev w_n (W : zW) : List zTn := W.2.2.2.2.1
abbrev w_c (W : zW) : Int32 := W.2.2.2.2.2.1
abbrev w_f (W : zW) : Nat := W.2.2.2.2.2.2.1
abbrev w_d (W : zW) : List Int32 := W.2.2.2.2.2.2.2
def wV (W : zW) (x : List zVh) : zW := (x, W.2)
def wR (W : zW) (x : List zRw) : zW := (W.1, x, W.2.2)
def wS (W : zW) (x : Nat → Int32) : zW := (W.1, W.2.1, x, W.2.2.2)
def wTk (W : zW) (x : Nat → Int32) : zW := (W.1, W.2.1, W.2.2.1, x, W.2.2.2.2)
def wTn (W : zW) (x : List zTn) : zW := (W.1, W.2.1, W.2.2.1, W.2.2.2.1, x, W.2.2.2.2.2)
def wC (W : zW) (x : Int32) : zW := (W.1, W.2.1, W.2.2.1, W.2.2.2.1, W.2.2.2.2.1, x, W.2.2.2.2.2.2)
def wF (W : zW) (x : Nat) : zW := (W.1, W.2.1, W.2.2.1, W.2.2.2.1, W.2.2.2.2.1, W.2.2.2.2.2.1, x, W.2.2.2.2.2.2.2)
def wD (W : zW) (x : List Int32) : zW := (W.1, W.2.1, W.2.2.1, W.2.2.2.1, W.2.2.2.2.1, W.2.2.2.2.2.1, W.2.2.2.2.2.2.1, x)
/-- the reference to row n, to vehicle v -/
def rfR (n : Nat) : Int32 := -(Int32.ofNat (n + 1))
def rfV (v : Nat) : Int32 := Int32.ofNat (v + 1)
/-- the row's, the vehicle's number -/
def ixR (c : Int32) : Nat := (-c).toNatClampNeg - 1
def ixV (c : Int32) : Nat := c.toNatClampNeg - 1
def rowAt (W : zW) (n : Nat) : zRw := (w_r W).getD n (0, [])
def vehAt (W : zW) (v : Nat) : zVh := (w_v W).getD v (0, fun _ => 0)
/-- the type of a thing as it is (c is not 0) -/
def tyOf (W : zW) (c : Int32) : Int32 := if c < 0 then 18 + (rowAt W (ixR c)).1 else (vehAt W (ixV c)).1
def nSpots (W : zW) : Nat := ((w_r W).map (fun r => r.2.length)).sum
def vMass (v : zVh) : Int32 := if v.1 = 0 then 5 else if v.1 = 1 then 45 else if v.1 = 3 then 45 + v.2 8 else if v.1 = 4 then 45 + v.2 8 / 2 else if v.1 = 9 then 25 + v.2 8 / 2 else if v.1 = 2 then 15 else if v.1 = 5 ∨ v.1 = 7 then 15 + v.2 5 else if v.1 = 6 then 15 + 2 * v.2 5 else if v.1 = 8 then 17 else if v.1 = 10 then 18 + v.2 5 + v.2 8 else if v.1 = 11 then 15 + 2 * v.2 5 + (if v.2 6 < 0 then 1 else 0) else 15 + v.2 5 + v.2 7
def vGrip (v : zVh) : Int32 := if v.1 = 1 then 10 else if v.1 = 3 then 15 else if v.1 = 4 then 20 else if v.1 = 9 then 17 else if v.1 = 8 then 25 else 0
def vPull (v : zVh) : Int32 := if v.1 = 3 then 20 * v.2 8 else if v.1 = 4 then 300 else if v.1 = 9 then 150 else 0
def vFld (v : zVh) (f : Nat) : Int32 := if f = 2 then vMass v else if f = 3 then vGrip v else if f = 4 then vPull v else v.2 f
def fset (g : Nat → Int32) (k : Nat) (x : Int32) : Nat → Int32 := fun j => if j = k then x else g j
/-- a field of a vehicle, a place of a row is set -/
def setV (W : zW) (v f : Nat) (x : Int32) : zW := wV W ((w_v W).modify v (fun e => (e.1, fset e.2 f x)))
def setR (W : zW) (n i : Nat) (x : Int32) : zW := wR W ((w_r W).modify n (fun e => (e.1, e.2.set i x)))
/-- a vehicle, or nothing, fits a row's places -/
abbrev fitsR (W : zW) (n : Nat) (c : Int32) : Prop := c = 0 ∨ cBel (vehAt W (ixV c)).1 (rowAt W n).1 = 1
/-- a row may lie on a track -/
abbrev mayLay (W : zW) (k : Nat) (c : Int32) : Prop := cBel (rowAt W (ixR c)).1 (w_s W k) = 1
/-! hump: from place i of row r on, n places left: how many went -/
def freeAt (W : zW) (s : Nat) : Option Nat := (rowAt W s).2.findIdx? (· == 0)
def humpW (r s : Nat) : Nat → Nat → zW → Nat × zW
  | 0, _, W => (0, W)
  | n + 1, i, W => match freeAt W s with
    | none => humpW r s n (i + 1) W
    | some j => if (rowAt W r).2.getD i 0 = 0 ∨ ¬ fitsR W s ((rowAt W r).2.getD i 0) then humpW r s n (i + 1) W
        else (let R := humpW r s n (i + 1) (setR (setR W s j ((rowAt W r).2.getD i 0)) r i 0); (R.1 + 1, R.2))
/-! THE MACHINE. A frame: proc, item, names, operands (the top first) -/
abbrev zFr : Type := Nat × Nat × (Nat → Int32) × List Int32
/-- it goes on: world, frames, fuel; or it is over: outcome, given, place, world, fuel -/
abbrev zMR : Type := (zW × List zFr × Nat) ⊕ (Int32 × Int32 × Int32 × zW × Nat)
def endM (why : Int32) (e : zI) (W : zW) (fu : Nat) (v : Int32) : zMR := .inr (why, v, e.2.2.2.1, W, fu)
/-- the innermost try that is begun, in the frames; s: 0 in the frame under way, 1 in those that wait -/
def unw (l : List zI) (v : Int32) : Nat → List zFr → Option (List zFr)
  | _, [] => none
  | s, f :: r => match (l[f.2.1 - s]?).map i_h with
    | some (j :: _) => match l[j]? with
      | some e => some ((f.1, e.2.2.1 + 1, fset f.2.2.1 e.2.1.toNatClampNeg v, []) :: r)
      | none => none
    | _ => unw l v 1 r
def raiseM (l : List zI) (W : zW) (F : List zFr) (fu : Nat) (e : zI) (why v : Int32) : zMR :=
  if w_f W = 600 then endM 8 e W fu 0 else match unw l v 0 F with
    | some F' => .inl (wF W (w_f W + 1), F', fu)
    | none => endM why e (wF W (w_f W + 1)) fu v
def leaveM (W : zW) (r : List zFr) (fu : Nat) (v : Int32) : zMR := match r with
  | [] => .inr (0, v, -1, W, fu)
  | g :: r' => .inl (W, (g.1, g.2.1, g.2.2.1, v :: g.2.2.2) :: r', fu)
/-- the frame goes on behind its item with these operands -/
def goM (W : zW) (f : zFr) (r : List zFr) (fu : Nat) (S : List Int32) : zMR := .inl (W, (f.1, f.2.1 + 1, f.2.2.1, S) :: r, fu)
def sayM (W : zW) (x : Int32) : zW := if (w_d W).length = 300 then W else wD W (w_d W ++ [x])
def opn (f : zFr) (i : Nat) : Int32 := f.2.2.2.getD i 0
def b01 (p : Bool) : Int32 := bif p then 1 else 0
end
