section
variable {E : sm_G} {X : Nat × (Nat → Int32)} {w : Bool} {p : Program} {l : Launch} {e : Env} {R : Room} {s : State} {m : MethodId} {args : Array Value} {below : List Frame} {meth : Method} {c : Code} {mn : Nat} {C : sm_C} {r : sm_O × sm_S} {c0 s0 : Nat} {Q : State → Prop} {n pc : Nat} {a : Nat × Nat × Nat × Nat} {L S : List sm_V} {σ : sm_S} {hx : sm_S → sm_R} {H : Heap} {locs : List Loc} {ls : Array Slot}
theorem sm_nn {z : Int32} (hz : ¬ z < 0) : z.toInt = (z.toNatClampNeg : Int) := by
  have hz0 : (0 : Int) ≤ z.toInt := by
    have := Int32.not_lt.mp hz
    simpa using Int32.le_iff_toInt_le.mp this
  show z.toInt = ((z.toInt.toNat : Nat) : Int)
  omega
theorem sm_HR.tag (hH : sm_HR E w σ H) {t i : Nat} (ht : 10 ≤ t) (hi : i < sm_cnt σ t) : t < 97 := by
  rcases (hH.2.2.1 t i ht hi).2 with ⟨q, -⟩ | ⟨q, -⟩ | ⟨-, q, -⟩ <;> omega
set_option maxHeartbeats 1000000 in
theorem sm_s_copy (cx : sm_Cx E X p s m args meth c mn) (K : sm_K E X w p l e R s m args below meth c mn C r c0 s0 Q n) (hR : 1 ≤ R.frames ∧ 60 ≤ R.locals) {i t k a3 : Nat} (hd : decode (sm_bc mn) pc = .ok (.invokestatic i, 3)) (hok : sm_okA mn (.invokestatic i) (t, k, a3, 1000) pc = true)
    (h : sm_I (sm_ZZ X) w C (.invokestatic i) (t, k, a3, 1000) pc (sm_run (sm_ZZ X) sm_PP w C mn n (pc + 3)) (sm_run (sm_ZZ X) sm_PP w C mn n) hx L S σ = some r) (hH : sm_HR E w σ H) (hL : sm_LR E σ (sm_nl mn) L ls) (hS : sm_SR σ S) (hl : ∀ q ∈ locs, E.1 ≤ q.base) (hc : c0 ≤ sm_cells σ) (hs : s0 ≤ sm_slots σ) :
    W p l e R s m args below meth c H locs (sm_cells σ - c0) (sm_slots σ - s0) Q (F0 m pc ls (sm_st E σ S)) := by
  obtain ⟨hex, hb, hml, hown, hts, hEF, -⟩ := cx
  have ho := hEF.2.2.2.2.2.2.2.2.2.2.2.2
  rcases S with _ | ⟨v1, S⟩
  · exact absurd h (fun z => by cases z)
  rcases v1 with x | v1 <;> first | exact absurd h (fun z => by cases z) | skip
  rcases S with _ | ⟨v2, S⟩
  · exact absurd h (fun z => by cases z)
  rcases v2 with d | v2 <;> first | exact absurd h (fun z => by cases z) | skip
  rcases S with _ | ⟨v3, S⟩
  · exact absurd h (fun z => by cases z)
  rcases v3 with _ | _ | q | _ <;> first | exact absurd h (fun z => by cases z) | skip
  rcases S with _ | ⟨v4, S⟩
  · exact absurd h (fun z => by cases z)
  rcases v4 with z | v4 <;> first | exact absurd h (fun z => by cases z) | skip
  rcases S with _ | ⟨v5, S⟩
  · exact absurd h (fun z => by cases z)
  rcases v5 with _ | _ | u | _ <;> first | exact absurd h (fun z => by cases z) | skip
  have hk : (if u.1 = 6 ∧ z = 0 ∧ d = 0 ∧ ¬ x < 0 ∧ x.toNatClampNeg ≤ (sm_tb u.2).length ∧ x.toNatClampNeg ≤ k ∧ sm_cat S ≤ 8 then sm_rq q t fun i => sm_run (sm_ZZ X) sm_PP w C mn n (pc + 3) L S (sC σ t i 0 x.toNatClampNeg fun k => (sm_tb u.2).getD k 0) else none) = some r := h
  by_cases hz : ¬ (u.1 = 6 ∧ z = 0 ∧ d = 0 ∧ ¬ x < 0 ∧ x.toNatClampNeg ≤ (sm_tb u.2).length ∧ x.toNatClampNeg ≤ k ∧ sm_cat S ≤ 8)
  · rw [if_neg hz] at hk; cases hk
  have hz := Decidable.not_not.mp hz
  rw [if_pos hz] at hk
  obtain ⟨z1, rfl, rfl, z4, z5, z6, z7⟩ := hz
  obtain ⟨h1, hh⟩ := sm_rq_s hk
  obtain ⟨u1, u2⟩ := u
  obtain ⟨q1, q2⟩ := q
  dsimp only at z1 h1 hh z5
  subst z1 h1
  have hu : sm_okp (sm_cnt σ) (6, u2) := hS (vP (6, u2)) (by simp)
  have hq : sm_okp (sm_cnt σ) (q1, q2) := hS (vP (q1, q2)) (by simp)
  have hu6 := sm_okp_6 hu
  have hok : (q1 == 9999 || (sm_has4 sm_ml (sm_ow mn) i 1000 && (decide (30 ≤ q1) && (decide (q1 < 97) && (sm_ak q1 == (0, k) && !(k == 0)))))) = true := hok
  simp only [Bool.or_eq_true, Bool.and_eq_true, beq_iff_eq, decide_eq_true_eq, Bool.not_eq_true', beq_eq_false_iff_ne] at hok
  rcases hok with hok | ⟨g0, g1, g2, g3, g4⟩
  · subst hok
    have := hH.tag (by decide) (sm_okp_big (by decide) hq)
    omega
  have hi := sm_okp_big (by omega) hq
  obtain ⟨-, hrow⟩ := hH.row g1 hi
  obtain ⟨-, kd, hkd, cm1, hkk1⟩ := (hEF.2.1 q1 g1 g2).1 (sm_al σ q1 q2) (sm_av E σ q1 q2)
  rw [sm_at0 g3] at hkk1
  obtain ⟨scr, s1, s2, s3, s4, -, s6, s7⟩ := (hEF.2.2.2.2.1 u2 hu6).2
  have s1' : H[E.2.2.2.2.1 u2]? = some scr := by rw [sm_low hH s7]; exact s1
  obtain ⟨s8, ks, hks, cm0, hkk0⟩ := s2
  have hav : sm_av E σ q1 q2 = fun j => .int (σ.1 q1 q2 j) := by
    funext j; unfold sm_av; rw [g3]; rfl
  have hav2 : sm_av E (sC σ q1 q2 0 x.toNatClampNeg fun k => (sm_tb u2).getD k 0) q1 q2 = fun j => .int (va_cpy (fun j => (sm_tb u2).getD j 0) (fun j => σ.1 q1 q2 j) 0 0 x.toNatClampNeg j) := by
    funext j
    unfold sm_av
    rw [g3]
    show Value.int (if q1 = q1 ∧ q2 = q2 ∧ 0 ≤ j ∧ j < 0 + x.toNatClampNeg then (sm_tb u2).getD (j - 0) 0 else σ.1 q1 q2 j) = .int (if 0 ≤ j ∧ j < 0 + x.toNatClampNeg then (sm_tb u2).getD (0 + (j - 0)) 0 else σ.1 q1 q2 j)
    by_cases hj : 0 ≤ j ∧ j < 0 + x.toNatClampNeg
    · rw [if_pos hj, if_pos ⟨rfl, rfl, hj⟩, Nat.zero_add]
    · rw [if_neg hj, if_neg (fun z => hj z.2.2)]
  have hal : sm_al σ q1 q2 = k := sm_al_n g3 g4
  show W p l e R s m args below meth c H locs _ _ Q (F0 m pc ls (.int x :: .int 0 :: va_rf (sm_rp E (sm_ad σ) (q1, q2)) :: .int 0 :: .ref (E.2.2.2.2.1 u2) :: sm_st E σ S))
  rw [sm_rp_big (by omega)]
  intro T hT Y
  obtain ⟨vm', Y', step⟩ := Y.arraycopy hex hown (hts _ (sm_ml_w g0)) (hts _ (sm_inw sm_prim.1.1 rfl)) (hts _ (sm_inw sm_prim.1.2.1 rfl)) (hts _ (sm_inw sm_prim.1.2.2 rfl)) (src := E.2.2.2.2.1 u2) (dst := E.1 + sm_ad σ q1 q2) (cs := scr) (srcPos := 0) (destPos := 0) (n := x) (by rw [hT]; exact s1') (by rw [hT]; exact hrow)
    s8 (fun _ h => by cases h) s3 (fun h => by cases h) hks hkd hkk0 hkk1 (by simp [refKind]) (by decide) (by decide) z4
    (by rw [sm_nn z4]; show ¬ (0 : Int) + _ > _; omega)
    (by rw [sm_nn z4, arrV_size, hal]; show ¬ (0 : Int) + _ > _; omega)
    (fun vm₁ _ j hj => by
      have e : scr.slots.getD ((0 : Int32).toNatClampNeg + j) .null = .int ((sm_tb u2).getD j 0) := by
        rw [show (0 : Int32).toNatClampNeg + j = j from Nat.zero_add j, Array.getD_eq_getD_getElem?, s6 _ (by omega)]
        rfl
      rw [e]
      exact ⟨rfl, trivial⟩)
    (g := F0 m pc ls (.int x :: .int 0 :: .ref (E.1 + sm_ad σ q1 q2) :: .int 0 :: .ref (E.2.2.2.2.1 u2) :: sm_st E σ S)) rfl (hL.1.trans hml.symm) (rest := sm_st E σ S) rfl (by rw [hb]; exact hd) hR.1 (by show 2 * 0 + ((S.map (sm_rv E (sm_ad σ))).map fun v => v.category).sum + _ ≤ _; rw [sm_cats ho, show nativeFrameWords "java/lang/System" "arraycopy" 5 = 7 by decide +kernel]; omega)
  have e1 : copied scr (arrV (E.2.2.2.2.2.2.2.1 q1) (sm_al σ q1 q2) (sm_av E σ q1 q2)) 0 0 x = arrV (E.2.2.2.2.2.2.2.1 q1) (sm_al σ q1 q2) (sm_av E (sC σ q1 q2 0 x.toNatClampNeg fun k => (sm_tb u2).getD k 0) q1 q2) := by
    rw [hav]
    refine (va_copiedX (fun z => .int z) scr (E.2.2.2.2.2.2.2.1 q1) (n0 := (sm_tb u2).length) (n1 := sm_al σ q1 q2) (sp := 0) (dp := 0) (n := x.toNatClampNeg) (fun j => (sm_tb u2).getD j 0) (fun j => σ.1 q1 q2 j) s6 (by omega)).trans ?_
    exact congrArg (arrV (E.2.2.2.2.2.2.2.1 q1) (sm_al σ q1 q2)) hav2.symm
  rw [e1] at Y' step
  have hlt : E.1 + sm_ad σ q1 q2 < H.size := (Array.getElem?_eq_some_iff.mp hrow).1
  have hheap : ((T.setVm vm').setCell (E.1 + sm_ad σ q1 q2) (arrV (E.2.2.2.2.2.2.2.1 q1) (sm_al σ q1 q2) (sm_av E (sC σ q1 q2 0 x.toNatClampNeg fun k => (sm_tb u2).getD k 0) q1 q2))).heap = H.setIfInBounds (E.1 + sm_ad σ q1 q2) (arrV (E.2.2.2.2.2.2.2.1 q1) (sm_al σ q1 q2) (sm_av E (sC σ q1 q2 0 x.toNatClampNeg fun k => (sm_tb u2).getD k 0) q1 q2)) := by rw [← hT]; rfl
  have hHR : sm_HR E w (sC σ q1 q2 0 x.toNatClampNeg fun k => (sm_tb u2).getD k 0) (H.setIfInBounds (E.1 + sm_ad σ q1 q2) (arrV (E.2.2.2.2.2.2.2.1 q1) (sm_al σ q1 q2) (sm_av E (sC σ q1 q2 0 x.toNatClampNeg fun k => (sm_tb u2).getD k 0) q1 q2))) := by
    refine hH.set (σ' := sC σ q1 q2 0 x.toNatClampNeg fun k => (sm_tb u2).getD k 0) (by omega) hi rfl (fun t' i' k' hne => ⟨?_, rfl, rfl⟩) (fun k' => hH.2.2.2.2.2.1 _ _ _) (by simp) (fun q hq => by simp [Array.getElem?_setIfInBounds, Ne.symm hq]) (Or.inr (Or.inr ⟨g1, g2, ?_⟩))
    · show (if t' = q1 ∧ i' = q2 ∧ 0 ≤ k' ∧ k' < 0 + x.toNatClampNeg then _ else σ.1 t' i' k') = _
      rw [if_neg (fun z => hne ⟨z.1, z.2.1⟩)]
    · show (H.setIfInBounds (E.1 + sm_ad σ q1 q2) _)[E.1 + sm_ad σ q1 q2]? = _
      simp [hlt]
      rfl
  obtain ⟨t2, st2, hq2⟩ := K _ _ _ _ _ _ _ hh hHR (hL.same rfl) hS.tail.tail.tail.tail.tail (fun q hq => by
      rcases List.mem_append.mp hq with z | z
      · exact hl q z
      · obtain ⟨y, -, hy⟩ := List.mem_map.mp z
        rw [← hy]
        exact Nat.le_add_right _ _) hc hs _ hheap Y'
  exact ⟨t2, step t2 st2, hq2⟩
end
