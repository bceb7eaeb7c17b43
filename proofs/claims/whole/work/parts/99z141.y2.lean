section
/-! ONE STEP OF THE PURE MACHINE -/
abbrev isTr (n : Int32) : Prop := ¬ n < 0 ∧ n < 8
/-- row n has a place i -/
abbrev hasPl (W : zW) (n : Nat) (i : Int32) : Prop := ¬ i < 0 ∧ i.toNatClampNeg < (rowAt W n).2.length
/-- send: the train's number, or -1 -/
def sendW (W : zW) (n : Nat) (k miles : Int32) : Int32 × zW := if isTr k ∧ ¬ miles < 1 ∧ ¬ 1000 < miles ∧ (w_n W).length < 10 then (Int32.ofNat (w_n W).length, wTn W (w_n W ++ [(n, k.toNatClampNeg, miles, 0, 0)])) else (-1, W)
/-- a new row may be made -/
abbrev roomR (W : zW) (n : Int32) : Prop := (w_r W).length < 200 ∧ ¬ 40 < n ∧ ¬ 2000 < (nSpots W : Int) + n.toInt
/-- the names of a proc that is entered: the arguments, the last on top -/
def argN (n : Nat) (S : List Int32) : Nat → Int32 := fun i => if i < n then S.getD (n - 1 - i) 0 else 0
def actM (x : zTx) (W : zW) (f : zFr) (r : List zFr) (fu : Nat) (e : zI) : zMR :=
  let S := f.2.2.2
  let rs := fun (why v : Int32) => raiseM x.1 W (f :: r) fu e why v
  let c0 := opn f 0
  let c1 := opn f 1
  let c2 := opn f 2
  match e.1 with
  | 4 => goM W f r fu (e.2.1 :: S)
  | 5 => goM W f r fu (f.2.2.1 e.2.1.toNatClampNeg :: S)
  | 6 => .inl (W, (f.1, f.2.1 + 1, fset f.2.2.1 e.2.1.toNatClampNeg c0, S.drop 1) :: r, fu)
  | 7 => goM W f r fu ((c1 + c0) :: S.drop 2)
  | 8 => goM W f r fu ((c1 - c0) :: S.drop 2)
  | 9 => goM W f r fu ((c1 * c0) :: S.drop 2)
  | 10 => goM W f r fu ((if c1 = c0 then 1 else 0) :: S.drop 2)
  | 11 => goM W f r fu ((if c1 = c0 then 0 else 1) :: S.drop 2)
  | 12 => goM W f r fu ((if c1 < c0 then 1 else 0) :: S.drop 2)
  | 13 => if c0 ≠ 0 ∧ ¬ cBel (tyOf W c0) e.2.1 = 1 then rs 4 4 else goM W f r fu S
  | 14 => goM W f r fu ((if c0 ≠ 0 ∧ cBel (tyOf W c0) e.2.1 = 1 then 1 else 0) :: S.drop 1)
  | 15 => if c1 = 0 then rs 1 1 else if hasPl W (ixR c1) c0 then goM W f r fu ((rowAt W (ixR c1)).2.getD c0.toNatClampNeg 0 :: S.drop 2) else rs 2 2
  | 16 => if c2 = 0 then rs 1 1 else if hasPl W (ixR c2) c1 then (if fitsR W (ixR c2) c0 then goM (setR W (ixR c2) c1.toNatClampNeg c0) f r fu (S.drop 3) else rs 5 5) else rs 2 2
  | 17 => if c0 = 0 then rs 1 1 else goM W f r fu (vFld (vehAt W (ixV c0)) e.2.1.toNatClampNeg :: S.drop 1)
  | 18 => if c1 = 0 then rs 1 1 else goM (setV W (ixV c1) e.2.1.toNatClampNeg c0) f r fu (S.drop 2)
  | 19 => if c0 = 0 then rs 1 1 else goM W f r fu (Int32.ofNat (rowAt W (ixR c0)).2.length :: S.drop 1)
  | 20 => if (w_v W).length < 300 then goM (wV W (w_v W ++ [((e.2.1, fun _ => (0 : Int32)) : zVh)])) f r fu (rfV (w_v W).length :: S) else endM 8 e W fu 0
  | 21 => if roomR W c0 then (if c0 < 0 then rs 3 3 else goM (wR W (w_r W ++ [(e.2.1, List.replicate c0.toNatClampNeg 0)])) f r fu (rfR (w_r W).length :: S.drop 1)) else endM 8 e W fu 0
  | 22 => goM (sayM W c0) f r fu (S.drop 1)
  | 23 => goM (sayM W (if c0 < 0 then -1 - Int32.ofNat (rowAt W (ixR c0)).2.length else if c0 = 0 then -1000 else c0 - 1)) f r fu (S.drop 1)
  | 24 => leaveM W r fu (if e.2.1 = 1 then c0 else 0)
  | 25 => rs 6 c0
  | 26 => if c0 = 0 then .inl (W, (f.1, e.2.2.1, f.2.2.1, S.drop 1) :: r, fu) else goM W f r fu (S.drop 1)
  | 27 => if r.length < 14 then .inl (W, ((e.2.1 - 5).toNatClampNeg, (x.2.2.getD (e.2.1 - 5).toNatClampNeg ([], 38, [], 0)).2.2.2, argN (qPar x.2.2 (e.2.1 - 5)).length S, []) :: (f.1, f.2.1 + 1, f.2.2.1, S.drop (qPar x.2.2 (e.2.1 - 5)).length) :: r, fu) else endM 9 e W fu 0
  | 28 => goM W f r fu ((if isTr c0 then w_t W c0.toNatClampNeg else 0) :: S.drop 1)
  | 29 => if isTr c1 ∧ (c0 = 0 ∨ mayLay W c1.toNatClampNeg c0) then goM (wTk W (fset (w_t W) c1.toNatClampNeg c0)) f r fu (1 :: S.drop 2) else goM W f r fu (0 :: S.drop 2)
  | 30 => if c1 = 0 ∨ c0 = 0 then rs 1 1 else (let R := humpW (ixR c1) (ixR c0) (if ixR c1 = ixR c0 then 0 else (rowAt W (ixR c1)).2.length) 0 W; goM R.2 f r fu (Int32.ofNat R.1 :: S.drop 2))
  | 31 => if c2 = 0 then rs 1 1 else (let R := sendW W (ixR c2) c1 c0; goM R.2 f r fu (R.1 :: S.drop 3))
  | 32 => goM W f r fu (w_c W :: S)
  | _ => endM 99 e W fu 0
def freeM (W : zW) (f : zFr) (r : List zFr) (fu : Nat) (e : zI) : zMR := match e.1 with
  | 0 => .inl (W, (f.1, e.2.2.1, f.2.2.1, f.2.2.2) :: r, fu)
  | 1 => goM W f r fu (f.2.2.2.drop 1)
  | 35 => goM W f r fu (f.2.2.2.drop 1)
  | 3 => leaveM W r fu 0
  | _ => goM W f r fu f.2.2.2
def stepM (x : zTx) (W : zW) (F : List zFr) (fu : Nat) : zMR := match F with
  | [] => .inr (99, 0, 0, W, fu)
  | f :: r => match x.1[f.2.1]? with
    | none => .inr (99, 0, 0, W, fu)
    | some e => if 4 ≤ e.1 ∧ e.1 < 33 then (match fu with
        | 0 => endM 7 e W 0 0
        | fu' + 1 => actM x W f r fu' e) else freeM W f r fu e
/-- n steps, or fewer -/
def runM (x : zTx) : Nat → zW → List zFr → Nat → zMR
  | 0, W, F, fu => .inl (W, F, fu)
  | n + 1, W, F, fu => match stepM x W F fu with
    | .inl y => runM x n y.1 y.2.1 y.2.2
    | .inr z => .inr z
end
