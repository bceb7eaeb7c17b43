section
def sm_wd : List Cond := lw_tbl.filter goodWord
def sm_has4 (l : List (Nat × Nat × Nat × Nat)) (a b c : Nat) : Bool := l.any (fun q => q.1 == a && (q.2.1 == b && q.2.2.1 == c))
def sm_has5 (l : List (Nat × Nat × Nat × Nat × Nat)) (a b c d : Nat) : Bool := l.any (fun q => q.1 == a && (q.2.1 == b && (q.2.2.1 == c && q.2.2.2.1 == d)))
def sm_inR (x : Int) : Bool := decide (-2147483648 ≤ x) && decide (x ≤ 2147483647)
def sm_sorted : List (Int × Int) → Bool
  | [] => true
  | [_] => true
  | a :: b :: r => decide (a.1 < b.1) && sm_sorted (b :: r)
/-- is what the tables say of a row of code so -/
def sm_okA (mn : Nat) (ins : Instr) (a : Nat × Nat × Nat × Nat) (pc : Nat) : Bool := match ins with
  | .istore i => decide (i < sm_nl mn)
  | .astore i => decide (i < sm_nl mn)
  | .istore_n i => decide (i.val < sm_nl mn)
  | .astore_n i => decide (i.val < sm_nl mn)
  | .iinc i _ => decide (i < sm_nl mn)
  | .lstore i => decide (i + 1 < sm_nl mn)
  | .lstore_n i => decide (i.val + 1 < sm_nl mn)
  | .goto o => decide (0 ≤ (pc : Int) + o)
  | .ifCond _ o => decide (0 ≤ (pc : Int) + o)
  | .if_icmp _ o => decide (0 ≤ (pc : Int) + o)
  | .if_acmp _ o => decide (0 ≤ (pc : Int) + o)
  | .ifnull o => decide (0 ≤ (pc : Int) + o)
  | .ifnonnull o => decide (0 ≤ (pc : Int) + o)
  | .tableswitch d lo hi os => decide (0 ≤ (pc : Int) + d) && (os.toList.all (fun o => decide (0 ≤ (pc : Int) + o)) && (decide (hi = lo + (os.size : Int) - 1) && (sm_inR lo && sm_inR (lo + (os.size : Int)))))
  | .lookupswitch d ps => decide (0 ≤ (pc : Int) + d) && (ps.toList.all (fun q => decide (0 ≤ (pc : Int) + q.2) && sm_inR q.1) && ((ps.toList.zip (ps.toList.drop 1)).all (fun (a, next) => a.1 < next.1)))
  | .ldc i => bif a.1 == 0 then sm_has4 sm_il (sm_ow mn) i a.2.1 else sm_has4 sm_sl (sm_ow mn) i a.2.1 && decide (a.2.1 < 54)
  | .ldc_w i => bif a.1 == 0 then sm_has4 sm_il (sm_ow mn) i a.2.1 else sm_has4 sm_sl (sm_ow mn) i a.2.1 && decide (a.2.1 < 54)
  | .ldc2_w i => sm_has4 sm_ll (sm_ow mn) i a.1
  | .getstatic i => sm_has5 sm_tl (sm_ow mn) i a.1 a.2.1
  | .getfield i => (sm_has5 sm_fl (sm_ow mn) i a.1 a.2.1 && ((a.1 == 5 && ((a.2.1 == 0 && a.2.2.1 == 7) || (a.2.1 == 1 && a.2.2.1 == 9))) || (decide (10 ≤ a.1) && (decide (a.1 < 24) && (sm_fk a.1)[a.2.1]? == some a.2.2.1)))) || (sm_has5 sm_fn (sm_ow mn) i a.1 a.2.1 && (decide (10 ≤ a.1) && (decide (a.1 < 24) && (sm_fk a.1)[a.2.1]? == some a.2.2.1)))
  | .putfield i => (decide (10 ≤ a.1) && (decide (a.1 < 24) && (sm_fk a.1)[a.2.1]? == some a.2.2.1)) && ((sm_has5 sm_fl (sm_ow mn) i a.1 a.2.1 && (bif (sm_cT a.1 a.2.1).2.2.2 then sm_kn mn == 2 && sm_ow mn == a.1 - 10 else true)) || (sm_has5 sm_fn (sm_ow mn) i a.1 a.2.1 && !(sm_cT a.1 a.2.1).2.2.2))
  | .iaload => a.1 == 4 || (a.1 == 6 || (decide (30 ≤ a.1) && (decide (a.1 < 97) && (sm_ak a.1 == (0, a.2.1) && !(a.2.1 == 0)))))
  | .baload => a.1 == 7 || (decide (30 ≤ a.1) && (decide (a.1 < 97) && (sm_ak a.1 == (1, a.2.1) && !(a.2.1 == 0))))
  | .laload => decide (30 ≤ a.1) && (decide (a.1 < 97) && (sm_ak a.1 == (2, a.2.1) && !(a.2.1 == 0)))
  | .aaload => decide (30 ≤ a.1) && (decide (a.1 < 97) && sm_ak a.1 == (3, a.2.1))
  | .iastore => decide (30 ≤ a.1) && (decide (a.1 < 97) && (sm_ak a.1 == (0, a.2.1) && !(a.2.1 == 0)))
  | .bastore => decide (30 ≤ a.1) && (decide (a.1 < 97) && (sm_ak a.1 == (1, a.2.1) && !(a.2.1 == 0)))
  | .lastore => decide (30 ≤ a.1) && (decide (a.1 < 97) && (sm_ak a.1 == (2, a.2.1) && !(a.2.1 == 0)))
  | .aastore => decide (30 ≤ a.1) && (decide (a.1 < 97) && (sm_ak a.1 == (3, a.2.1) && (decide (10 ≤ a.2.2.1) && (decide (a.2.2.1 < 24) && sm_cR a.2.2.1 == sm_ae a.1))))
  | .arraylength => a.1 == 4 || (a.1 == 6 || (a.1 == 7 || (decide (30 ≤ a.1) && (decide (a.1 < 97) && (sm_ak a.1).2 == a.2.1))))
  | .new i => sm_has4 sm_kl (sm_ow mn) i a.1 && ((a.1 == 24 && a.2.1 == 6) || (decide (10 ≤ a.1) && (decide (a.1 < 24) && (sm_fk a.1).length == a.2.1)))
  | .newarray ty => decide (30 ≤ a.1) && (decide (a.1 < 97) && ((sm_ak a.1).2 == a.2.1 && ((decide (ty = .int) && (sm_ak a.1).1 == 0) || ((decide (ty = .byte) && (sm_ak a.1).1 == 1) || (decide (ty = .long) && (sm_ak a.1).1 == 2)))))
  | .anewarray i => decide (30 ≤ a.1) && (decide (a.1 < 97) && ((sm_ak a.1) == (3, a.2.1) && sm_kl.any (fun q => q.1 == sm_ow mn && (q.2.1 == i && (decide (10 ≤ q.2.2.1) && (decide (q.2.2.1 < 24) && sm_cR q.2.2.1 == sm_ae a.1))))))
  | .invokestatic i => a.1 == 9999 || bif a.2.2.2 == 1000 then sm_has4 sm_ml (sm_ow mn) i 1000 && (decide (30 ≤ a.1) && (decide (a.1 < 97) && (sm_ak a.1 == (0, a.2.1) && !(a.2.1 == 0)))) else sm_has4 sm_ml (sm_ow mn) i a.1 && (decide (a.1 < 308) && (sm_kn a.1 == 1 && (a.2.2.2 == 0 && ((parseMethodDescriptor (sm_y a.1).desc).map (fun d => d.parameters.length) == some a.2.1 && sm_okR a.2.2.1 (sm_re a.1)))))
  | .invokevirtual i => a.1 == 9999 || sm_has4 sm_ml (sm_ow mn) i a.1 && (decide (a.1 < 308) && (sm_kn a.1 == 0 && ((a.2.2.2 == 5 && (sm_y a.1).cls == "java/lang/String" || (decide (10 ≤ a.2.2.2) && (decide (a.2.2.2 < 24) && (sm_y a.1).cls == sm_cR a.2.2.2))) && ((parseMethodDescriptor (sm_y a.1).desc).map (fun d => d.parameters.length + 1) == some a.2.1 && sm_okR a.2.2.1 (sm_re a.1)))))
  | .invokespecial i => bif a.2.2.2 == 1001 then sm_has4 sm_ml (sm_ow mn) i 1001 else bif a.2.2.2 == 1002 then sm_has4 sm_ml (sm_ow mn) i 1002 else (sm_has4 sm_ml (sm_ow mn) i a.1 || sm_has4 sm_mn (sm_ow mn) i a.1) && (decide (a.1 < 308) && (sm_kn a.1 == 2 && ((decide (10 ≤ a.2.2.2) && (decide (a.2.2.2 < 24) && (sm_y a.1).cls == sm_cR a.2.2.2)) && ((parseMethodDescriptor (sm_y a.1).desc).map (fun d => d.parameters.length + 1) == some a.2.1 && (a.2.2.1 == 0 && decide (sm_re a.1 = none))))))
  | .ireturn => (a.1 == 0 && decide (sm_re mn = some .int)) || ((a.1 == 1 && decide (sm_re mn = some .boolean)) || ((a.1 == 2 && decide (sm_re mn = some .char)) || (a.1 == 3 && decide (sm_re mn = some .byte))))
  | .lreturn => decide (sm_re mn = some .long)
  | .areturn => match sm_re mn with
    | some (.object _) => true
    | _ => false
  | .return_ => decide (sm_re mn = none)
  | _ => true
where
  sm_okR (k : Nat) (r : Option FieldType) : Bool := match r with
    | none => k == 0
    | some .long => k == 2
    | some (.object _) => k == 3
    | some (.array _) => false
    | some .float => false
    | some .double => false
    | some _ => k == 1
/-- how long an instruction is; 0: a switch -/
def sm_ln (ins : Instr) : Nat := match ins with
  | .bipush _ => 2
  | .sipush _ => 3
  | .iload _ => 2
  | .lload _ => 2
  | .aload _ => 2
  | .istore _ => 2
  | .lstore _ => 2
  | .astore _ => 2
  | .iinc _ _ => 3
  | .goto _ => 3
  | .ifCond _ _ => 3
  | .if_icmp _ _ => 3
  | .if_acmp _ _ => 3
  | .ifnull _ => 3
  | .ifnonnull _ => 3
  | .ldc _ => 2
  | .ldc_w _ => 3
  | .ldc2_w _ => 3
  | .getstatic _ => 3
  | .getfield _ => 3
  | .putfield _ => 3
  | .new _ => 3
  | .anewarray _ => 3
  | .newarray _ => 2
  | .invokestatic _ => 3
  | .invokevirtual _ => 3
  | .invokespecial _ => 3
  | .tableswitch _ _ _ _ => 0
  | .lookupswitch _ _ => 0
  | _ => 1
def sm_okE (mn : Nat) (e : sm_E) : Bool := (match decode (sm_bc mn) e.1 with
  | .ok q => decide (q = (e.2.1, e.2.2.1))
  | _ => false) && ((sm_ln e.2.1 == 0 || e.2.2.1 == sm_ln e.2.1) && sm_okA mn e.2.1 e.2.2.2.1 e.1)
theorem sm_okE_s {mn : Nat} {e : sm_E} (h : sm_okE mn e = true) : decode (sm_bc mn) e.1 = .ok (e.2.1, e.2.2.1) ∧ (sm_ln e.2.1 = 0 ∨ e.2.2.1 = sm_ln e.2.1) ∧ sm_okA mn e.2.1 e.2.2.2.1 e.1 = true := by
  unfold sm_okE at h
  simp only [Bool.and_eq_true, Bool.or_eq_true, beq_iff_eq] at h
  obtain ⟨h1, h2, h3⟩ := h
  refine ⟨?_, h2, h3⟩
  split at h1
  · rename_i q hq
    rw [hq, of_decide_eq_true h1]
  · cases h1
end
