section
/-! THE LAW's ENTRY: what the Statement gives of the start -/
def sm_nw : List Cond := flatC (Jvm.Cond.and given_1 narrow_1)
def sm_sx : List (Nat × Nat) := [(7, 87), (7, 95), (7, 101), (5, 121), (5, 295), (13, 645), (13, 47), (13, 49), (13, 51), (13, 53), (13, 55), (13, 57), (13, 59), (13, 61), (13, 63), (13, 65), (13, 67), (13, 69), (13, 71), (13, 73), (13, 75), (13, 77), (13, 79), (13, 81), (13, 83), (13, 85), (13, 87), (13, 89), (13, 91), (13, 93), (13, 95), (13, 97), (13, 99), (13, 101), (13, 103), (13, 105), (13, 107), (13, 109), (13, 111), (13, 113), (13, 222), (13, 224), (13, 226), (13, 228), (13, 230), (13, 405), (13, 407), (13, 409), (13, 411), (13, 413), (13, 415), (13, 417), (13, 419), (13, 421)]
def sm_bs : List Nat := [112, 183, 302, 321, 349, 401, 410, 416, 423, 429, 437, 446, 453, 462, 472, 479, 487, 494, 502, 508, 514, 522, 533, 543, 552, 561, 571, 578, 586, 594, 601, 612, 622, 632, 641, 650, 659, 669, 678, 687, 694, 703, 710, 718, 726, 733, 740, 750, 758, 766, 774, 782, 791, 800]
def sm_tm (i : Nat) : Term := .string (sm_cn (sm_sx.getD i (0, 0)).1) (sm_sx.getD i (0, 0)).2
def sm_nwS (i : Nat) : List Cond := .exactly (sm_tm i) "java/lang/String" :: .eq (.field (sm_tm i) "java/lang/String" "coder" "B") (.int 0) :: .arrayOf (.field (sm_tm i) "java/lang/String" "value" "[B") .byte :: .eq (.length (.field (sm_tm i) "java/lang/String" "value" "[B")) (.int (Int32.ofNat (sm_by i).length)) :: (List.range (sm_by i).length).map (fun j => .eq (.elem (.field (sm_tm i) "java/lang/String" "value" "[B") (.int (Int32.ofNat j))) (.int ((sm_by i).getD j 0)))
theorem sm_nwS_ok : (List.range 54).all (fun i => decide ((sm_nw.drop (sm_bs.getD i 0)).take (4 + (sm_by i).length) = sm_nwS i)) = true := by decide +kernel
theorem sm_by_ne : (List.range 54).all (fun i => decide ((sm_by i).length < 1000) && (List.range 54).all (fun j => i == j || !(sm_by i == sm_by j))) = true := by decide +kernel
theorem sm_sl_ok : sm_sl.all (fun q => decide (q.2.2.1 < 54) && (decide (sm_sx.getD q.2.2.1 (0, 0) = (q.1, q.2.1)) && (match lw_tbl[q.2.2.2]? with | some (.stringRef a b _) => a == sm_cn q.1 && b == q.2.1 | _ => false))) = true := by decide +kernel
def sm_ts (k : Nat) : Term := .static (sm_sc k).1 (sm_sc k).2 "[I"
def sm_bt : List Nat := [4, 27, 35, 48, 69, 83]
def sm_nwT (k : Nat) : List Cond := .isRef (sm_ts k) :: .arrayOf (sm_ts k) .int :: .eq (.length (sm_ts k)) (.int (Int32.ofNat (sm_tb k).length)) :: (List.range (sm_tb k).length).map (fun j => .eq (.elem (sm_ts k) (.int (Int32.ofNat j))) (.int ((sm_tb k).getD j 0)))
theorem sm_nwT_ok : (List.range 6).all (fun k => decide ((sm_tb k).length < 1000) && decide ((sm_nw.drop (sm_bt.getD k 0)).take (3 + (sm_tb k).length) = sm_nwT k)) = true := by decide +kernel
theorem sm_lt_ok : (List.range 6).all (fun k => decide (Cond.laysStatic (sm_sc k).1 (sm_sc k).2 "[I" ∈ lw_tbl) && decide (Cond.initialized (sm_sc k).1 ∈ lw_tbl)) = true := by decide +kernel
theorem sm_in_ok : (List.range 24).all (fun t => decide (t < 10) || decide (Cond.instantiable (sm_cR t) (bif t == 11 then 13 else (sm_fk t).length) ∈ lw_tbl)) = true := by decide +kernel
theorem sm_ar_ok : (List.range 97).all (fun t => decide (t < 30) || (!((sm_ak t).1 == 3) || (sm_ae t == "FreightYards$Vehicle" || (sm_ae t == "FreightYards$Row" || sm_ae t == "FreightYards$Train")))) = true := by decide +kernel
theorem sm_ar_le : (List.range 97).all (fun t => Nat.ble (sm_ak t).1 3) = true := by decide +kernel
theorem sm_dt {l : List Cond} {a n : Nat} {k : List Cond} (h : (l.drop a).take n = k) : ∀ w ∈ k, w ∈ l := fun w hw => List.mem_of_mem_drop (List.mem_of_mem_take (by rw [h]; exact hw))
/-- the texts lie apart, for they differ -/
theorem sm_Sof {args : Array Value} {s : State} {A : Nat → Prop} (hnw : ∀ w ∈ sm_nw, w.before args s = true) (hA : ∀ a : Nat, a < s.heap.size → ¬ A a) :
    ∃ adK adV : Nat → Nat, vk_S 54 sm_len54 sm_byt54 adK adV A s s.heap ∧ ∀ i : Nat, i < 54 → (sm_tm i).eval args s none [] s = some (.ref (adK i)) := by
  have hlen : ∀ i, i < 54 → sm_len54.getD i 0 = (sm_by i).length := fun i hi => by simp [sm_len54, hi]
  have hbyt : ∀ i, i < 54 → sm_byt54.getD i [] = sm_by i := fun i hi => by simp [sm_byt54, hi]
  have hn : ∀ i, i < 54 → (sm_by i).length < 1000 ∧ ∀ j, j < 54 → i ≠ j → sm_by i ≠ sm_by j := fun i hi => by
    have h := List.all_eq_true.mp sm_by_ne i (List.mem_range.mpr hi)
    rw [Bool.and_eq_true] at h
    refine ⟨of_decide_eq_true h.1, fun j hj hij he => ?_⟩
    have h2 := List.all_eq_true.mp h.2 j (List.mem_range.mpr hj)
    rw [he] at h2
    simp [hij] at h2
  have hw : ∀ i, i < 54 → ∀ w ∈ sm_nwS i, w.before args s = true := fun i hi w hw => hnw w (sm_dt (of_decide_eq_true (List.all_eq_true.mp sm_nwS_ok i (List.mem_range.mpr hi))) w hw)
  have h0 : ∀ i : Nat, ∃ q : Nat × Nat, i < 54 → (sm_tm i).eval args s none [] s = some (.ref q.1) ∧ va_O "java/lang/String" q.1 A s s.heap ∧ va_OF "java/lang/String" "coder" "B" (.int 0) q.1 A s s.heap ∧ va_OF "java/lang/String" "value" "[B" (.ref q.2) q.1 A s s.heap ∧ va_T .byte q.2 (sm_by i).length (fun j => .int ((sm_by i).getD j 0)) A s s.heap := by
    intro i
    by_cases hi : i < 54
    · have hh := hw i hi
      obtain ⟨a, c, cA, kA, q1, q2, q3, q4, q5, q6, -⟩ := Cond.exactly_spec (args := args) (first := s) (o := none) (s := s) (idx := []) (t := sm_tm i) (cls := "java/lang/String") (hh _ List.mem_cons_self)
      obtain ⟨t, ht, hT⟩ := va_Tof (f := fun j => .int ((sm_by i).getD j 0)) (A := A) (N := (sm_by i).length) (by have := (hn i hi).1; omega) (hh _ (List.mem_cons_of_mem _ (List.mem_cons_of_mem _ List.mem_cons_self))) (va_eqt (hh _ (List.mem_cons_of_mem _ (List.mem_cons_of_mem _ (List.mem_cons_of_mem _ List.mem_cons_self))))) (fun j hj => va_eqt (hh _ (List.mem_cons_of_mem _ (List.mem_cons_of_mem _ (List.mem_cons_of_mem _ (List.mem_cons_of_mem _ (List.mem_map.mpr ⟨j, List.mem_range.mpr hj, rfl⟩))))))) hA
      exact ⟨(a, t), fun _ => ⟨q1, ⟨cA, q3, q5, by rw [q6]; exact q2, hA a (Array.getElem?_eq_some_iff.mp q3).1⟩, vk_OFof q1 (va_eqt (hh _ (List.mem_cons_of_mem _ List.mem_cons_self))) hA, vk_OFof q1 ht hA, hT⟩⟩
    · exact ⟨(0, 0), fun h => absurd h hi⟩
  obtain ⟨ad, had⟩ := Classical.axiomOfChoice h0
  refine ⟨fun i => (ad i).1, fun i => (ad i).2, ⟨fun i hi => ?_, fun i j hi hj e => ?_⟩, fun i hi => (had i hi).1⟩
  · rw [hlen i hi, hbyt i hi]
    exact (had i hi).2
  · by_cases hij : i = j
    · exact hij
    · exfalso
      refine (hn i hi).2 j hj hij ?_
      obtain ⟨-, -, -, ⟨cf, k, fi, f, cell, a1, a2, a3, a4, a5, a6⟩, ⟨ce, b1, b2, b3, b4, b5, b6, b7⟩⟩ := had i hi
      obtain ⟨-, -, -, ⟨cf', k', fi', f', cell', a1', a2', a3', a4', a5', a6'⟩, ⟨ce', b1', b2', b3', b4', b5', b6', b7'⟩⟩ := had j hj
      have e : (ad i).1 = (ad j).1 := e
      rw [e] at a3
      cases a1.symm.trans a1'
      cases a3.symm.trans a3'
      have e2 : (ad i).2 = (ad j).2 := by
        have := a5.symm.trans a5'
        injection this with this
        injection this
      rw [e2] at b1
      cases b1.symm.trans b1'
      have e3 : (sm_by i).length = (sm_by j).length := by
        have h1 := (hn i hi).1
        have h2 := (hn j hj).1
        have h3 : Int32.ofNat (sm_by i).length = Int32.ofNat (sm_by j).length := b5.symm.trans b5'
        have h4 := congrArg Int32.toNatClampNeg h3
        rw [Int32.toNatClampNeg_ofNat_of_lt (by omega), Int32.toNatClampNeg_ofNat_of_lt (by omega)] at h4
        exact h4
      refine List.ext_getElem? fun z => ?_
      by_cases hz : z < (sm_by i).length
      · have h1 := b6 z hz
        have h2 := b6' z (by rw [← e3]; exact hz)
        have h3 : (sm_by i).getD z 0 = (sm_by j).getD z 0 := by
          have := h1.symm.trans h2
          injection this with this
          injection this
        rw [List.getElem?_eq_getElem hz, List.getElem?_eq_getElem (by rw [← e3]; exact hz)]
        simp only [List.getD_eq_getElem?_getD, List.getElem?_eq_getElem hz, List.getElem?_eq_getElem (show z < (sm_by j).length by rw [← e3]; exact hz), Option.getD_some] at h3
        rw [h3]
      · rw [List.getElem?_eq_none (by omega), List.getElem?_eq_none (by omega)]
/-- arrays' classes -/
theorem sm_arr_of {args : Array Value} {s : State} (hts : ∀ w ∈ lw_tbl, w.before args s = true) (t : Nat) (h30 : 30 ≤ t) (h97 : t < 97) : ∃ cA : ClassId, ArrOfT s cA (sm_at_ t) ∧ va_RA s cA (sm_at_ t) := by
  have prim : ∀ ty : FieldType, (Cond.arrayClass ty).before args s = true → ∃ cA : ClassId, ArrOfT s cA ty ∧ s.vm.findClass ("[" ++ ty.toString) = some cA := fun ty h => by
    obtain ⟨c, k, comp, h1, h2, h3⟩ := Cond.arrayClass_spec h
    exact ⟨c, fun n z => ⟨fun k h => (by cases h), k, h2, comp, h3⟩, h1⟩
  have obj : ∀ C : String, (Cond.arrayOver (.object C)).before args s = true → ∃ cA : ClassId, ArrOfT s cA (.object C) ∧ va_RA s cA (.object C) := fun C h => by
    obtain ⟨comp, c, k, h1, h2, h3, h4, h5⟩ := Cond.arrayOver_spec h
    exact ⟨c, fun n z => ⟨fun k h => (by cases h), k, h3, comp, h4⟩, k, comp, h3, h4, h1, h5⟩
  have hle := Nat.ble_eq.mp (List.all_eq_true.mp sm_ar_le t (List.mem_range.mpr h97))
  have har := List.all_eq_true.mp sm_ar_ok t (List.mem_range.mpr h97)
  unfold sm_at_
  generalize hk : (sm_ak t).1 = k at hle har
  rcases k with _ | _ | _ | _ | k
  · exact prim .int (hts _ (by decide +kernel))
  · exact prim .byte (hts _ (by decide +kernel))
  · exact prim .long (hts _ (by decide +kernel))
  · have h1 : decide (t < 30) = false := by simp; omega
    rw [h1] at har
    simp only [Bool.false_or, Bool.or_eq_true, beq_iff_eq, Bool.not_eq_true', beq_eq_false_iff_ne, ne_eq] at har
    rcases har with q | q | q | q
    · exact absurd trivial q
    · rw [q]; exact obj _ (hts _ (by decide +kernel))
    · rw [q]; exact obj _ (hts _ (by decide +kernel))
    · rw [q]; exact obj _ (hts _ (by decide +kernel))
  · omega
theorem sm_LSof {args : Array Value} {s : State} {n d : String} {E : sm_G} (hE : E.1 = s.heap.size) (hH : E.2.2.2.2.2.2.2.2 = s.heap) (hl : (Cond.laysStatic "java/lang/Throwable" n d).before args s = true) (hr : (Cond.isRef (.static "java/lang/Throwable" n d)).before args s = true) : sm_LS n d E s := by
  obtain ⟨v, hv, hvr⟩ := Cond.isRef_spec hr
  obtain ⟨c, k, i, f, a, cell, hc, hi, hst, ha, hcell, hs, hcls, hlt, hty⟩ := Cond.laysStatic_spec hl
  obtain ⟨hst', a', cell', ha', hcell', -, hslot⟩ := Term.static_spec hi hv
  cases ha.symm.trans ha'
  cases hcell.symm.trans hcell'
  have hlt2 := (Array.getElem?_eq_some_iff.mp hcell).1
  exact ⟨c, k, i, f, a, cell, v, hc, hi, hst, ha, by rw [hH]; exact hcell, hs, hcls, hlt, hty, hslot, hvr, by rw [hE]; omega⟩
theorem sm_EF0 {p : Program} {s : State} {m : MethodId} {meth : Method} {c : Code} {b L : Nat} {xs : Nat → Int32} (C0 : lw_At p s m meth c b L xs) :
    ∃ E : sm_G, E.1 = s.heap.size ∧ E.2.1 = b ∧ E.2.2.2.2.2.2.2.2 = s.heap ∧ sm_EF E (L, xs) s := by
  obtain ⟨hx, hb, hr, hml, hown, hts, hX, hbl, hlocks, hgv⟩ := C0
  have hnw : ∀ w ∈ sm_nw, w.before #[Value.ref b] s = true := flat_of_before _ hgv
  have hA : ∀ a : Nat, a < s.heap.size → ¬ s.heap.size ≤ a := fun a h => by omega
  have hwd : ∀ w ∈ sm_wd, w.before #[Value.ref b] s = true := fun w hw => hts w (List.mem_filter.mp hw).1
  obtain ⟨adK, adV, hS, hev⟩ := sm_Sof (A := fun q => s.heap.size ≤ q) hnw hA
  -- classes
  have hcl : ∀ t, ∃ q : ClassId × (Nat → Nat), 10 ≤ t → t < 24 → u_Kn s (sm_cR t) (sm_cT t) (sm_fk t).length q.1 q.2 := fun t => by
    by_cases h : 10 ≤ t ∧ t < 24
    · have h1 := List.all_eq_true.mp sm_in_ok t (List.mem_range.mpr h.2)
      rw [show decide (t < 10) = false by simp; omega, Bool.false_or] at h1
      obtain ⟨cC, iS, hK⟩ := u_known (C := sm_cR t) (T := sm_cT t) (N := (sm_fk t).length) hwd (sm_uw t h.1 h.2) (hts _ (of_decide_eq_true h1))
      exact ⟨(cC, iS), fun _ _ => hK⟩
    · exact ⟨(0, fun _ => 0), fun h1 h2 => absurd ⟨h1, h2⟩ h⟩
  obtain ⟨cl, hcl⟩ := Classical.axiomOfChoice hcl
  have har : ∀ t, ∃ cA : ClassId, 30 ≤ t → t < 97 → ArrOfT s cA (sm_at_ t) ∧ va_RA s cA (sm_at_ t) := fun t => by
    by_cases h : 30 ≤ t ∧ t < 97
    · obtain ⟨cA, h1⟩ := sm_arr_of hts t h.1 h.2
      exact ⟨cA, fun _ _ => h1⟩
    · exact ⟨0, fun h1 h2 => absurd ⟨h1, h2⟩ h⟩
  obtain ⟨ar, har⟩ := Classical.axiomOfChoice har
  obtain ⟨bt, hbt⟩ := u_found (args := #[Value.ref b]) (s := s) (C := "java/lang/Throwable") (O := "java/lang/Throwable") (f := "backtrace") (d := "Ljava/lang/Object;") (Or.inl (hts _ (by decide +kernel)))
  obtain ⟨cI, kI, hcI, -⟩ := Cond.instantiable_spec (hts (.instantiable "java/lang/IllegalStateException" 6) (by decide +kernel))
  have htb : ∀ k, ∃ t : Nat, k < 6 → va_Z (sm_sc k).1 (sm_sc k).2 "[I" (.ref t) (fun q => s.heap.size ≤ q) s s.heap ∧ va_T .int t (sm_tb k).length (fun j => .int ((sm_tb k).getD j 0)) (fun q => s.heap.size ≤ q) s s.heap := fun k => by
    by_cases hk : k < 6
    · have h1 := List.all_eq_true.mp sm_nwT_ok k (List.mem_range.mpr hk)
      rw [Bool.and_eq_true] at h1
      have h2 := List.all_eq_true.mp sm_lt_ok k (List.mem_range.mpr hk)
      rw [Bool.and_eq_true] at h2
      have hw : ∀ w ∈ sm_nwT k, w.before #[Value.ref b] s = true := fun w hw => hnw w (sm_dt (of_decide_eq_true h1.2) w hw)
      obtain ⟨t, ht, hT⟩ := va_Tof (A := fun q => s.heap.size ≤ q) (tm := sm_ts k) (N := (sm_tb k).length) (f := fun j => .int ((sm_tb k).getD j 0)) (by have := of_decide_eq_true h1.1; omega) (hw _ (List.mem_cons_of_mem _ List.mem_cons_self)) (va_eqt (hw _ (List.mem_cons_of_mem _ (List.mem_cons_of_mem _ List.mem_cons_self)))) (fun j hj => va_eqt (hw _ (List.mem_cons_of_mem _ (List.mem_cons_of_mem _ (List.mem_cons_of_mem _ (List.mem_map.mpr ⟨j, List.mem_range.mpr hj, rfl⟩)))))) hA
      exact ⟨t, fun _ => ⟨va_Zof (hts _ (of_decide_eq_true h2.1)) (hts _ (of_decide_eq_true h2.2)) ht hA, hT⟩⟩
    · exact ⟨0, fun h => absurd h hk⟩
  obtain ⟨tb, htb⟩ := Classical.axiomOfChoice htb
  obtain ⟨sv, hsv, hsr⟩ := Cond.isRef_spec (hnw (.isRef (.static "jdk/internal/util/Preconditions" "SIOOBE_FORMATTER" "Ljava/util/function/BiFunction;")) (List.mem_of_getElem? (i := 44) (by decide +kernel)))
  have hE : ∃ E : sm_G, E = (s.heap.size, b, adK, adV, tb, sv, (fun c => (cl (c + 10)).1, fun c => if c = 14 then fun _ => bt else (cl (c + 10)).2), fun t => if t = 24 then cI else ar t, s.heap) := ⟨_, rfl⟩
  obtain ⟨E, hE⟩ := hE
  refine ⟨E, by rw [hE], by rw [hE], by rw [hE], ?_⟩
  refine ⟨fun t h1 h2 => ?_, fun t h1 h2 => ?_, by rw [hE]; exact hS, fun q hq => ?_, fun k hk => by rw [hE]; exact htb k hk, ?_, ?_, fun q hq => ?_, fun q hq => ?_, ?_, ?_, ?_, ?_⟩
  · rw [hE]
    show u_Kn s (sm_cR t) (sm_cT t) (sm_fk t).length (cl (t - 10 + 10)).1 (if t - 10 = 14 then fun _ => bt else (cl (t - 10 + 10)).2)
    rw [show t - 10 + 10 = t by omega, if_neg (by omega)]
    exact hcl t h1 h2
  · rw [hE]
    show ArrOfT s (if t = 24 then cI else ar t) (sm_at_ t) ∧ va_RA s (if t = 24 then cI else ar t) (sm_at_ t)
    rw [if_neg (by omega)]
    exact har t h1 h2
  · have h1 := List.all_eq_true.mp sm_sl_ok q hq
    simp only [Bool.and_eq_true, decide_eq_true_eq] at h1
    obtain ⟨h2, h3, h4⟩ := h1
    have h5 := hev q.2.2.1 h2
    unfold sm_tm at h5
    rw [h3] at h5
    cases hw : lw_tbl[q.2.2.2]? with
    | none => rw [hw] at h4; cases h4
    | some w =>
      rw [hw] at h4
      cases w <;> first | (cases h4; done) | skip
      case stringRef a0 b0 tx =>
        have h4 : (a0 == sm_cn q.1 && b0 == q.2.1) = true := h4
        simp only [Bool.and_eq_true, beq_iff_eq] at h4
        rw [h4.1, h4.2] at hw
        refine ⟨tx, ?_⟩
        rw [hE]
        exact vk_R.of (hts _ (List.mem_of_getElem? hw)) h5
  · rw [hE]
    exact va_Zof (hts _ (by decide +kernel)) (hts _ (by decide +kernel)) (va_eqi (hnw _ (List.mem_of_getElem? (i := 43) (by decide +kernel)))) hA
  · rw [hE]
    exact va_Zof (hts _ (by decide +kernel)) (hts _ (by decide +kernel)) hsv hA
  · exact va_Nw.of rfl (hts _ (List.mem_of_getElem? (of_decide_eq_true (List.all_eq_true.mp sm_fn_in q hq))))
  · exact va_Nw.of rfl (hts _ (List.mem_of_getElem? (of_decide_eq_true (List.all_eq_true.mp sm_mn_in q hq))))
  · exact ⟨va_AO.of (hts _ (by decide +kernel)), va_AO.of (hts _ (by decide +kernel)), va_AO.of (hts _ (by decide +kernel))⟩
  · rw [hE]
    exact ⟨hX, hbl, rfl⟩
  · refine ⟨by rw [hE]; exact hcI, by rw [hE]; exact hbt, sm_LSof (by rw [hE]) (by rw [hE]) (hts _ (by decide +kernel)) (hnw _ (List.mem_of_getElem? (i := 81) (by decide +kernel))), sm_LSof (by rw [hE]) (by rw [hE]) (hts _ (by decide +kernel)) (hnw _ (List.mem_of_getElem? (i := 82) (by decide +kernel))), fun y hy => ?_⟩
    refine va_Nw.of rfl (hts _ ?_)
    have : sm_dc.all (fun y => decide (Cond.declares y ∈ lw_tbl)) = true := by decide +kernel
    exact of_decide_eq_true (List.all_eq_true.mp this y hy)
  · rw [hE]
    show sv = .null ∨ ∃ a, sv = .ref a
    cases sv <;> first | exact Or.inl rfl | exact Or.inr ⟨_, rfl⟩ | cases hsr
end
