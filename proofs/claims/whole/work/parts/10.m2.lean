section
/-- what an int-row is read by: the script, a table, or a row of the state; n: its length -/
def sm_ild (X : Nat × (Nat → Int32)) (tb : Nat → List Int32) (t n : Nat) (q : Nat × Nat) (j : Int32) (σ : sm_S) (k : Int32 → sm_R) : sm_R := bif t == 4 then sm_rq q 4 fun _ => sm_ix j X.1 fun z => k (X.2 z) else bif t == 6 then sm_rq q 6 fun i => sm_ix j (tb i).length fun z => k ((tb i).getD z 0) else sm_rq q t fun i => sm_ix j n fun z => k (σ.1 t i z)
def sm_bld (by_ : Nat → List Int32) (t n : Nat) (q : Nat × Nat) (j : Int32) (σ : sm_S) (k : Int32 → sm_R) : sm_R := bif t == 7 then sm_rq q 7 fun i => sm_ix j (by_ i).length fun z => k ((by_ i).getD z 0) else sm_rq q t fun i => sm_ix j n fun z => k (σ.1 t i z)
/-- a row's length -/
def sm_len (X : Nat × (Nat → Int32)) (tb by_ : Nat → List Int32) (t n : Nat) (q : Nat × Nat) (σ : sm_S) (k : Int32 → sm_R) : sm_R := bif t == 4 then sm_rq q 4 fun _ => k (Int32.ofNat X.1) else bif t == 6 then sm_rq q 6 fun i => k (Int32.ofNat (tb i).length) else bif t == 7 then sm_rq q 7 fun i => k (Int32.ofNat (by_ i).length) else sm_rq q t fun i => k (Int32.ofNat (bif n == 0 then σ.2.2.2.1 t i else n))
/-- a field is read: kind 0: int, 3: a flag, 1: long, 2: reference, 10 and more: a reference that is set once, to the cell of that tag and the same number (w: it has been set); 9: the text's code, always 0 -/
def sm_gf (w : Bool) (t k kd : Nat) (i : Nat) (σ : sm_S) : sm_V := match kd with
  | 0 => vI (σ.1 t i k)
  | 1 => vL (σ.2.1 t i k)
  | 2 => vP (σ.2.2.1 t i k)
  | 3 => vI (σ.1 t i k)
  | 7 => vP (7, i)
  | 9 => vI 0
  | n + 4 => bif w then vP (n + 4, i) else vP (σ.2.2.1 t i k)
def sm_pf (w : Bool) (t k kd : Nat) (S : List sm_V) (σ : sm_S) (nx : List sm_V → sm_S → sm_R) : sm_R := match kd with
  | 0 => match S with
    | .inl x :: .inr (.inr (.inl q)) :: r => sm_rq q t fun i => nx r (sI σ t i k x)
    | _ => none
  | 1 => match S with
    | .inr (.inl x) :: .inr (.inr (.inl q)) :: r => sm_rq q t fun i => nx r (sL σ t i k x)
    | _ => none
  | 2 => match S with
    | .inr (.inr (.inl x)) :: .inr (.inr (.inl q)) :: r => sm_rq q t fun i => nx r (sR σ t i k x)
    | _ => none
  | 3 => match S with
    | .inl x :: .inr (.inr (.inl q)) :: r => if x = 0 ∨ x = 1 then sm_rq q t fun i => nx r (sI σ t i k x) else none
    | _ => none
  | 9 => none
  | _ + 4 => bif w then none else match S with
    | .inr (.inr (.inl x)) :: .inr (.inr (.inl q)) :: r => sm_rq q t fun i => nx r (sR σ t i k x)
    | _ => none
def sm_ld (v : sm_V) (k : sm_V → sm_R) (c : Nat) : sm_R := match c, v with
  | 0, .inl x => k (vI x)
  | 1, .inr (.inl x) => k (vL x)
  | 2, .inr (.inr (.inl q)) => k (vP q)
  | _, _ => none
/-- a call of method a.1, with a.2.1 values; a.2.2.1: what it gives (0 nothing, 1 int, 2 long, 3 reference); a.2.2.2: the receiver's tag, 0: none -/
def sm_cl (C : sm_C) (a : Nat × Nat × Nat × Nat) (hx : sm_S → sm_R) (S : List sm_V) (σ : sm_S) (nx : List sm_V → sm_S → sm_R) : sm_R := match sm_take a.2.1 [] S with
  | none => none
  | some (As, r) => if sm_cat r ≤ 8 then
      (let go : sm_R := match a.2.2.1 with
        | 0 => sm_bV (C a.1 As σ) hx fun s => nx r s
        | 1 => sm_bI (C a.1 As σ) hx fun x s => nx (vI x :: r) s
        | 2 => sm_bL (C a.1 As σ) hx fun x s => nx (vL x :: r) s
        | _ => sm_bP (C a.1 As σ) hx fun x s => nx (vP x :: r) s
      match a.2.2.2 with
        | 0 => go
        | t + 1 => match As with
          | .inr (.inr (.inl q)) :: _ => if q.1 = t + 1 then go else none
          | _ => none) else none
def sm_cases (pc : Nat) (lo : Int) : List Int → List (Int32 × Nat)
  | [] => []
  | o :: r => (Int32.ofInt lo, sm_tg pc o) :: sm_cases pc (lo + 1) r
def sm_pairs (pc : Nat) : List (Int × Int) → List (Int32 × Nat)
  | [] => []
  | q :: r => (Int32.ofInt q.1, sm_tg pc q.2) :: sm_pairs pc r
/-- ireturn: 0 int, 1 flag, 2 char, 3 byte -/
def sm_rt (k : Nat) (x : Int32) (σ : sm_S) : sm_R := match k with
  | 0 => some (some (some (vI x)), σ)
  | 1 => if x = 0 ∨ x = 1 then some (some (some (vI x)), σ) else none
  | 2 => if 0 ≤ x ∧ x ≤ 65535 then some (some (some (vI x)), σ) else none
  | _ => if -128 ≤ x ∧ x ≤ 127 then some (some (some (vI x)), σ) else none
/-- the tables of a claim: the script; tables of ints; bytes of texts; longs -/
abbrev sm_T : Type := (Nat × (Nat → Int32)) × (Nat → List Int32) × (Nat → List Int32) × (Nat → Int64)
/-- ONE INSTRUCTION -/
def sm_I (Z : sm_T) (w : Bool) (C : sm_C) (ins : Instr) (a : Nat × Nat × Nat × Nat) (pc : Nat) (nx : List sm_V → List sm_V → sm_S → sm_R) (jp : Nat → List sm_V → List sm_V → sm_S → sm_R) (hx : sm_S → sm_R) (L S : List sm_V) (σ : sm_S) : sm_R := match ins with
  | .iconst n => nx L (vI (Int32.ofInt n) :: S) σ
  | .bipush n => nx L (vI (Int8.ofInt n).toInt32 :: S) σ
  | .sipush n => nx L (vI (Int16.ofInt n).toInt32 :: S) σ
  | .lconst n => nx L (vL (Int64.ofNat n) :: S) σ
  | .aconst_null => nx L (vN :: S) σ
  | .iload i => sm_ld (sm_nth L i) (fun v => nx L (v :: S) σ) 0
  | .iload_n i => sm_ld (sm_nth L i) (fun v => nx L (v :: S) σ) 0
  | .lload i => sm_ld (sm_nth L i) (fun v => nx L (v :: S) σ) 1
  | .lload_n i => sm_ld (sm_nth L i) (fun v => nx L (v :: S) σ) 1
  | .aload i => sm_ld (sm_nth L i) (fun v => nx L (v :: S) σ) 2
  | .aload_n i => sm_ld (sm_nth L i) (fun v => nx L (v :: S) σ) 2
  | .istore i => sm_p1 S fun x r => nx (sm_st1 L i (vI x)) r σ
  | .istore_n i => sm_p1 S fun x r => nx (sm_st1 L i (vI x)) r σ
  | .lstore i => sm_q1 S fun x r => nx (sm_st2 L i (vL x)) r σ
  | .lstore_n i => sm_q1 S fun x r => nx (sm_st2 L i (vL x)) r σ
  | .astore i => sm_r1 S fun x r => nx (sm_st1 L i (vP x)) r σ
  | .astore_n i => sm_r1 S fun x r => nx (sm_st1 L i (vP x)) r σ
  | .iinc i n => sm_ld (sm_nth L i) (fun v => match v with
      | .inl x => nx (sm_st1 L i (vI (x + Int32.ofInt n))) S σ
      | _ => none) 0
  | .iadd => sm_p2 S fun x y r => nx L (vI (x + y) :: r) σ
  | .isub => sm_p2 S fun x y r => nx L (vI (x - y) :: r) σ
  | .imul => sm_p2 S fun x y r => nx L (vI (x * y) :: r) σ
  | .iand => sm_p2 S fun x y r => nx L (vI (x &&& y) :: r) σ
  | .ishr => sm_p2 S fun x y r => nx L (vI (x >>> (y &&& 31)) :: r) σ
  | .idiv => sm_p2 S fun x y r => if y = 0 then none else nx L (vI (x / y) :: r) σ
  | .irem => sm_p2 S fun x y r => if y = 0 then none else nx L (vI (x - x / y * y) :: r) σ
  | .ineg => sm_p1 S fun x r => nx L (vI (-x) :: r) σ
  | .ladd => sm_q2 S fun x y r => nx L (vL (x + y) :: r) σ
  | .lsub => sm_q2 S fun x y r => nx L (vL (x - y) :: r) σ
  | .lmul => sm_q2 S fun x y r => nx L (vL (x * y) :: r) σ
  | .lor => sm_q2 S fun x y r => nx L (vL (x ||| y) :: r) σ
  | .lneg => sm_q1 S fun x r => nx L (vL (-x) :: r) σ
  | .lshl => sm_p1 S fun y r => sm_q1 r fun x r2 => nx L (vL (x <<< (y.toInt64 &&& 63)) :: r2) σ
  | .lcmp => sm_q2 S fun x y r => nx L (vI (lg_cmp x y) :: r) σ
  | .i2l => sm_p1 S fun x r => nx L (vL x.toInt64 :: r) σ
  | .l2i => sm_q1 S fun x r => nx L (vI x.toInt32 :: r) σ
  | .i2b => sm_p1 S fun x r => nx L (vI x.toInt8.toInt32 :: r) σ
  | .i2c => sm_p1 S fun x r => nx L (vI (x.toUInt32 % 65536).toInt32 :: r) σ
  | .dup => match S with
    | v :: r => if sm_cat1 v = 1 then nx L (v :: v :: r) σ else none
    | _ => none
  | .dup2 => match S with
    | u :: v :: r => if sm_cat1 u = 1 ∧ sm_cat1 v = 1 then nx L (u :: v :: u :: v :: r) σ else none
    | _ => none
  | .pop => match S with
    | v :: r => if sm_cat1 v = 1 then nx L r σ else none
    | _ => none
  | .goto o => jp (sm_tg pc o) L S σ
  | .ifCond c o => sm_p1 S fun x r => match c with
    | .eq => if x = 0 then jp (sm_tg pc o) L r σ else nx L r σ
    | .ne => if x = 0 then nx L r σ else jp (sm_tg pc o) L r σ
    | .lt => if x < 0 then jp (sm_tg pc o) L r σ else nx L r σ
    | .ge => if x < 0 then nx L r σ else jp (sm_tg pc o) L r σ
    | .gt => if 0 < x then jp (sm_tg pc o) L r σ else nx L r σ
    | .le => if 0 < x then nx L r σ else jp (sm_tg pc o) L r σ
  | .if_icmp c o => sm_p2 S fun x y r => match c with
    | .eq => if x = y then jp (sm_tg pc o) L r σ else nx L r σ
    | .ne => if x = y then nx L r σ else jp (sm_tg pc o) L r σ
    | .lt => if x < y then jp (sm_tg pc o) L r σ else nx L r σ
    | .ge => if x < y then nx L r σ else jp (sm_tg pc o) L r σ
    | .gt => if y < x then jp (sm_tg pc o) L r σ else nx L r σ
    | .le => if y < x then nx L r σ else jp (sm_tg pc o) L r σ
  | .if_acmp c o => sm_r2 S fun x y r => match c with
    | .eq => if x = y then jp (sm_tg pc o) L r σ else if (x.1 = 0 ∨ 10 ≤ x.1) ∧ (y.1 = 0 ∨ 10 ≤ y.1) then nx L r σ else none
    | .ne => if x = y then nx L r σ else if (x.1 = 0 ∨ 10 ≤ x.1) ∧ (y.1 = 0 ∨ 10 ≤ y.1) then jp (sm_tg pc o) L r σ else none
  | .ifnull o => sm_r1 S fun x r => if x.1 = 0 then jp (sm_tg pc o) L r σ else nx L r σ
  | .ifnonnull o => sm_r1 S fun x r => if x.1 = 0 then nx L r σ else jp (sm_tg pc o) L r σ
  | .tableswitch d lo _ os => sm_p1 S fun x r => sm_sw x (fun t => jp t L r σ) (sm_tg pc d) (sm_cases pc lo os.toList)
  | .lookupswitch d ps => sm_p1 S fun x r => sm_sw x (fun t => jp t L r σ) (sm_tg pc d) (sm_pairs pc ps.toList)
  | .ldc _ => match a.1 with
    | 0 => nx L (vI (Int32.ofNat a.2.1) :: S) σ
    | _ => nx L (vP (5, a.2.1) :: S) σ
  | .ldc_w _ => match a.1 with
    | 0 => nx L (vI (Int32.ofNat a.2.1) :: S) σ
    | _ => nx L (vP (5, a.2.1) :: S) σ
  | .ldc2_w _ => nx L (vL (Z.2.2.2 a.1) :: S) σ
  | .getstatic _ => match a.1 with
    | 0 => nx L (vI (Int32.ofNat a.2.1) :: S) σ
    | 1 => nx L (vP (6, a.2.1) :: S) σ
    | _ => nx L (vU :: S) σ
  | .getfield _ => sm_r1 S fun q r => sm_rq q a.1 fun i => nx L (sm_gf w a.1 a.2.1 a.2.2.1 i σ :: r) σ
  | .putfield _ => sm_pf w a.1 a.2.1 a.2.2.1 S σ fun r s => nx L r s
  | .iaload => sm_a0 S fun q j r => sm_ild Z.1 Z.2.1 a.1 a.2.1 q j σ fun v => nx L (vI v :: r) σ
  | .baload => sm_a0 S fun q j r => sm_bld Z.2.2.1 a.1 a.2.1 q j σ fun v => nx L (vI v :: r) σ
  | .laload => sm_a0 S fun q j r => sm_rq q a.1 fun i => sm_ix j a.2.1 fun z => nx L (vL (σ.2.1 a.1 i z) :: r) σ
  | .aaload => sm_a0 S fun q j r => sm_rq q a.1 fun i => sm_ix j (bif a.2.1 == 0 then σ.2.2.2.1 a.1 i else a.2.1) fun z => nx L (vP (σ.2.2.1 a.1 i z) :: r) σ
  | .iastore => sm_aI S fun q j x r => sm_rq q a.1 fun i => sm_ix j a.2.1 fun z => nx L r (sI σ a.1 i z x)
  | .bastore => sm_aI S fun q j x r => sm_rq q a.1 fun i => sm_ix j a.2.1 fun z => nx L r (sI σ a.1 i z x.toInt8.toInt32)
  | .lastore => sm_aL S fun q j x r => sm_rq q a.1 fun i => sm_ix j a.2.1 fun z => nx L r (sL σ a.1 i z x)
  | .aastore => sm_aR S fun q j x r => sm_rq q a.1 fun i => sm_ix j (bif a.2.1 == 0 then σ.2.2.2.1 a.1 i else a.2.1) fun z => if x.1 = 0 ∨ x.1 = a.2.2.1 then nx L r (sR σ a.1 i z x) else none
  | .arraylength => sm_r1 S fun q r => sm_len Z.1 Z.2.1 Z.2.2.1 a.1 a.2.1 q σ fun v => nx L (vI v :: r) σ
  | .new _ => bif w && !(a.1 == 16 || a.1 == 18 || a.1 == 19) then none else nx L (vP (a.1, σ.2.2.2.2.1 a.1) :: S) (sN σ a.1 a.2.1 0)
  | .newarray _ => sm_p1 S fun n r => if n < 0 ∨ 100000 < n.toNatClampNeg ∨ ¬ (a.2.1 = 0 ∨ n.toNatClampNeg = a.2.1) then none else nx L (vP (a.1, σ.2.2.2.2.1 a.1) :: r) (sN σ a.1 n.toNatClampNeg n.toNatClampNeg)
  | .anewarray _ => sm_p1 S fun n r => if n < 0 ∨ 100000 < n.toNatClampNeg ∨ ¬ (a.2.1 = 0 ∨ n.toNatClampNeg = a.2.1) then none else nx L (vP (a.1, σ.2.2.2.2.1 a.1) :: r) (sN σ a.1 n.toNatClampNeg n.toNatClampNeg)
  | .invokestatic _ => match a.2.2.2 with
    | 1000 => match S with
      | .inl n :: .inl d :: .inr (.inr (.inl q)) :: .inl z :: .inr (.inr (.inl u)) :: r => if u.1 = 6 ∧ z = 0 ∧ d = 0 ∧ ¬ n < 0 ∧ n.toNatClampNeg ≤ (Z.2.1 u.2).length ∧ n.toNatClampNeg ≤ a.2.1 ∧ sm_cat r ≤ 8 then sm_rq q a.1 fun i => nx L r (sC σ a.1 i 0 n.toNatClampNeg fun k => (Z.2.1 u.2).getD k 0) else none
      | _ => none
    | _ => sm_cl C a hx S σ fun r s => nx L r s
  | .invokevirtual _ => sm_cl C a hx S σ fun r s => nx L r s
  | .invokespecial _ => match a.2.2.2 with
    | 1001 => match S with
      | .inr (.inr (.inl u)) :: .inr (.inr (.inl q)) :: r => if u.1 = 5 ∧ q.1 = 24 ∧ sm_cat r ≤ 8 then nx L r σ else none
      | _ => none
    | 1002 => sm_r1 S fun q r => if 10 ≤ q.1 ∧ sm_cat r ≤ 8 then nx L r σ else none
    | _ => sm_cl C a hx S σ fun r s => nx L r s
  | .athrow => sm_r1 S fun q _ => sm_rq q 24 fun _ => hx σ
  | .ireturn => match S with
    | [.inl x] => sm_rt a.1 x σ
    | _ => none
  | .lreturn => match S with
    | [.inr (.inl x)] => some (some (some (vL x)), σ)
    | _ => none
  | .areturn => match S with
    | [.inr (.inr (.inl q))] => some (some (some (vP q)), σ)
    | _ => none
  | .return_ => match S with
    | [] => some (some none, σ)
    | _ => none
  | _ => none
end
