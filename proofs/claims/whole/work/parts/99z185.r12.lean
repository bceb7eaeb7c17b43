section
/-! THE REFERENCE's MACHINE: the loop -/
variable {X : Nat × (Nat → Int32)} {d : Nat} {s σ σ' : sm_S} {W W' : zW} {n i k m j mi q pc q0 tgt : Nat} {c t u nx v arg ty pl c0 c1 c2 : Int32} {x : zTx} {K : List (Nat × Int32)} {nm : Nat → Int32} {S ops L A : List Int32} {H : List Nat} {r F : List zFr} {fu : Nat} {e : zI} {f : zFr} {g : zG} {d1 d2 d3 : sm_V} {p : zP}
set_option maxRecDepth 20000 in
theorem q_works (X : Nat × (Nat → Int32)) (C : sm_C) (d1 d2 d3 : sm_V) (s : sm_S) : sm_go (sm_ZZ X) sm_PP true C 260 0 [vP (23, 0), d1, d2, d3] [] s =
  if (s.1 23 0 57) = 0 then
   (sm_rq ((sI s 23 0 48 ((s.1 23 0 48) + 1)).2.2.1 23 0 6) 22 fun j1 =>
   sm_ix (s.1 23 0 48) 4000 fun z2 =>
   sm_rq ((sI s 23 0 48 ((s.1 23 0 48) + 1)).2.2.1 23 0 6) 22 fun j3 =>
   sm_ix (s.1 23 0 48) 4000 fun z4 =>
   if ((sI s 23 0 48 ((s.1 23 0 48) + 1)).1 63 j1 z2) < 25 then
    (if ((sI s 23 0 48 ((s.1 23 0 48) + 1)).1 23 0 49) = 0 then
     (sm_bV (C 255 [vP (23, 0), vI 7, vI (s.1 23 0 48)] (sI s 23 0 48 ((s.1 23 0 48) + 1))) sm_tw fun s6 =>
     some (some none, s6))
    else
     (sm_bV (C 261 [vP (23, 0), vI ((sI s 23 0 48 ((s.1 23 0 48) + 1)).1 63 j1 z2), vI ((sI s 23 0 48 ((s.1 23 0 48) + 1)).1 64 j3 z4), vI (s.1 23 0 48)] (sI (sI s 23 0 48 ((s.1 23 0 48) + 1)) 23 0 49 (((sI s 23 0 48 ((s.1 23 0 48) + 1)).1 23 0 49) - 1))) sm_tw fun s8 =>
     sm_go (sm_ZZ X) sm_PP true C 260 0 [vP (23, 0), vI (s.1 23 0 48), vI ((sI s 23 0 48 ((s.1 23 0 48) + 1)).1 63 j1 z2), vI ((sI s 23 0 48 ((s.1 23 0 48) + 1)).1 64 j3 z4)] [] s8))
   else
    (if ((sI s 23 0 48 ((s.1 23 0 48) + 1)).1 63 j1 z2) = 25 then
     (sm_go (sm_ZZ X) sm_PP true C 260 0 [vP (23, 0), vI (s.1 23 0 48), vI ((sI s 23 0 48 ((s.1 23 0 48) + 1)).1 63 j1 z2), vI ((sI s 23 0 48 ((s.1 23 0 48) + 1)).1 64 j3 z4)] [] (sI (sI s 23 0 48 ((s.1 23 0 48) + 1)) 23 0 37 (((sI s 23 0 48 ((s.1 23 0 48) + 1)).1 23 0 37) - 1)))
    else
     (if ((sI s 23 0 48 ((s.1 23 0 48) + 1)).1 63 j1 z2) = 26 then
      (sm_go (sm_ZZ X) sm_PP true C 260 0 [vP (23, 0), vI (s.1 23 0 48), vI ((sI s 23 0 48 ((s.1 23 0 48) + 1)).1 63 j1 z2), vI ((sI s 23 0 48 ((s.1 23 0 48) + 1)).1 64 j3 z4)] [] (sI (sI s 23 0 48 ((s.1 23 0 48) + 1)) 23 0 48 ((sI s 23 0 48 ((s.1 23 0 48) + 1)).1 64 j3 z4)))
     else
      (if ((sI s 23 0 48 ((s.1 23 0 48) + 1)).1 63 j1 z2) = 27 then
       (sm_ix ((sI s 23 0 48 ((s.1 23 0 48) + 1)).1 23 0 47) 200 fun z9 =>
       sm_ix ((sI (sI s 23 0 48 ((s.1 23 0 48) + 1)) 86 0 z9 ((sI s 23 0 48 ((s.1 23 0 48) + 1)).1 64 j3 z4)).1 23 0 47) 200 fun z10 =>
       sm_ix ((sI (sI (sI s 23 0 48 ((s.1 23 0 48) + 1)) 86 0 z9 ((sI s 23 0 48 ((s.1 23 0 48) + 1)).1 64 j3 z4)) 87 0 z10 ((sI (sI s 23 0 48 ((s.1 23 0 48) + 1)) 86 0 z9 ((sI s 23 0 48 ((s.1 23 0 48) + 1)).1 64 j3 z4)).1 23 0 39)).1 23 0 47) 200 fun z11 =>
       sm_rq ((sI (sI (sI (sI s 23 0 48 ((s.1 23 0 48) + 1)) 86 0 z9 ((sI s 23 0 48 ((s.1 23 0 48) + 1)).1 64 j3 z4)) 87 0 z10 ((sI (sI s 23 0 48 ((s.1 23 0 48) + 1)) 86 0 z9 ((sI s 23 0 48 ((s.1 23 0 48) + 1)).1 64 j3 z4)).1 23 0 39)) 88 0 z11 ((sI (sI (sI s 23 0 48 ((s.1 23 0 48) + 1)) 86 0 z9 ((sI s 23 0 48 ((s.1 23 0 48) + 1)).1 64 j3 z4)) 87 0 z10 ((sI (sI s 23 0 48 ((s.1 23 0 48) + 1)) 86 0 z9 ((sI s 23 0 48 ((s.1 23 0 48) + 1)).1 64 j3 z4)).1 23 0 39)).1 23 0 37)).2.2.1 23 0 6) 22 fun j12 =>
       sm_ix (s.1 23 0 48) 4000 fun z13 =>
       sm_ix ((sI (sI (sI (sI s 23 0 48 ((s.1 23 0 48) + 1)) 86 0 z9 ((sI s 23 0 48 ((s.1 23 0 48) + 1)).1 64 j3 z4)) 87 0 z10 ((sI (sI s 23 0 48 ((s.1 23 0 48) + 1)) 86 0 z9 ((sI s 23 0 48 ((s.1 23 0 48) + 1)).1 64 j3 z4)).1 23 0 39)) 88 0 z11 ((sI (sI (sI s 23 0 48 ((s.1 23 0 48) + 1)) 86 0 z9 ((sI s 23 0 48 ((s.1 23 0 48) + 1)).1 64 j3 z4)) 87 0 z10 ((sI (sI s 23 0 48 ((s.1 23 0 48) + 1)) 86 0 z9 ((sI s 23 0 48 ((s.1 23 0 48) + 1)).1 64 j3 z4)).1 23 0 39)).1 23 0 37)).1 23 0 47) 200 fun z14 =>
       sm_go (sm_ZZ X) sm_PP true C 260 0 [vP (23, 0), vI (s.1 23 0 48), vI ((sI s 23 0 48 ((s.1 23 0 48) + 1)).1 63 j1 z2), vI ((sI s 23 0 48 ((s.1 23 0 48) + 1)).1 64 j3 z4)] [] (sI (sI (sI (sI (sI (sI s 23 0 48 ((s.1 23 0 48) + 1)) 86 0 z9 ((sI s 23 0 48 ((s.1 23 0 48) + 1)).1 64 j3 z4)) 87 0 z10 ((sI (sI s 23 0 48 ((s.1 23 0 48) + 1)) 86 0 z9 ((sI s 23 0 48 ((s.1 23 0 48) + 1)).1 64 j3 z4)).1 23 0 39)) 88 0 z11 ((sI (sI (sI s 23 0 48 ((s.1 23 0 48) + 1)) 86 0 z9 ((sI s 23 0 48 ((s.1 23 0 48) + 1)).1 64 j3 z4)) 87 0 z10 ((sI (sI s 23 0 48 ((s.1 23 0 48) + 1)) 86 0 z9 ((sI s 23 0 48 ((s.1 23 0 48) + 1)).1 64 j3 z4)).1 23 0 39)).1 23 0 37)) 89 0 z14 ((sI (sI (sI (sI s 23 0 48 ((s.1 23 0 48) + 1)) 86 0 z9 ((sI s 23 0 48 ((s.1 23 0 48) + 1)).1 64 j3 z4)) 87 0 z10 ((sI (sI s 23 0 48 ((s.1 23 0 48) + 1)) 86 0 z9 ((sI s 23 0 48 ((s.1 23 0 48) + 1)).1 64 j3 z4)).1 23 0 39)) 88 0 z11 ((sI (sI (sI s 23 0 48 ((s.1 23 0 48) + 1)) 86 0 z9 ((sI s 23 0 48 ((s.1 23 0 48) + 1)).1 64 j3 z4)) 87 0 z10 ((sI (sI s 23 0 48 ((s.1 23 0 48) + 1)) 86 0 z9 ((sI s 23 0 48 ((s.1 23 0 48) + 1)).1 64 j3 z4)).1 23 0 39)).1 23 0 37)).1 65 j12 z13)) 23 0 47 (((sI (sI (sI (sI (sI s 23 0 48 ((s.1 23 0 48) + 1)) 86 0 z9 ((sI s 23 0 48 ((s.1 23 0 48) + 1)).1 64 j3 z4)) 87 0 z10 ((sI (sI s 23 0 48 ((s.1 23 0 48) + 1)) 86 0 z9 ((sI s 23 0 48 ((s.1 23 0 48) + 1)).1 64 j3 z4)).1 23 0 39)) 88 0 z11 ((sI (sI (sI s 23 0 48 ((s.1 23 0 48) + 1)) 86 0 z9 ((sI s 23 0 48 ((s.1 23 0 48) + 1)).1 64 j3 z4)) 87 0 z10 ((sI (sI s 23 0 48 ((s.1 23 0 48) + 1)) 86 0 z9 ((sI s 23 0 48 ((s.1 23 0 48) + 1)).1 64 j3 z4)).1 23 0 39)).1 23 0 37)) 89 0 z14 ((sI (sI (sI (sI s 23 0 48 ((s.1 23 0 48) + 1)) 86 0 z9 ((sI s 23 0 48 ((s.1 23 0 48) + 1)).1 64 j3 z4)) 87 0 z10 ((sI (sI s 23 0 48 ((s.1 23 0 48) + 1)) 86 0 z9 ((sI s 23 0 48 ((s.1 23 0 48) + 1)).1 64 j3 z4)).1 23 0 39)) 88 0 z11 ((sI (sI (sI s 23 0 48 ((s.1 23 0 48) + 1)) 86 0 z9 ((sI s 23 0 48 ((s.1 23 0 48) + 1)).1 64 j3 z4)) 87 0 z10 ((sI (sI s 23 0 48 ((s.1 23 0 48) + 1)) 86 0 z9 ((sI s 23 0 48 ((s.1 23 0 48) + 1)).1 64 j3 z4)).1 23 0 39)).1 23 0 37)).1 65 j12 z13)).1 23 0 47) + 1)))
      else
       (if ((sI s 23 0 48 ((s.1 23 0 48) + 1)).1 63 j1 z2) = 28 then
        (sm_go (sm_ZZ X) sm_PP true C 260 0 [vP (23, 0), vI (s.1 23 0 48), vI ((sI s 23 0 48 ((s.1 23 0 48) + 1)).1 63 j1 z2), vI ((sI s 23 0 48 ((s.1 23 0 48) + 1)).1 64 j3 z4)] [] (sI (sI s 23 0 48 ((s.1 23 0 48) + 1)) 23 0 47 (((sI s 23 0 48 ((s.1 23 0 48) + 1)).1 23 0 47) - 1)))
       else
        (sm_rq ((sI s 23 0 48 ((s.1 23 0 48) + 1)).2.2.1 23 0 6) 22 fun j15 =>
        sm_ix ((sI s 23 0 48 ((s.1 23 0 48) + 1)).1 23 0 39) 15 fun z16 =>
        sm_ix ((sI s 23 0 48 ((s.1 23 0 48) + 1)).1 84 0 z16) 12 fun z17 =>
        if ((sI s 23 0 48 ((s.1 23 0 48) + 1)).1 59 j15 z17) = 38 then
         (sm_bV (C 257 [vP (23, 0), vI 0, vI 0] (sI s 23 0 48 ((s.1 23 0 48) + 1))) sm_tw fun s19 =>
         sm_go (sm_ZZ X) sm_PP true C 260 0 [vP (23, 0), vI (s.1 23 0 48), vI ((sI s 23 0 48 ((s.1 23 0 48) + 1)).1 63 j1 z2), vI ((sI s 23 0 48 ((s.1 23 0 48) + 1)).1 64 j3 z4)] [] s19)
        else
         (sm_bV (C 257 [vP (23, 0), vI 0, vI 1] (sI s 23 0 48 ((s.1 23 0 48) + 1))) sm_tw fun s21 =>
         sm_go (sm_ZZ X) sm_PP true C 260 0 [vP (23, 0), vI (s.1 23 0 48), vI ((sI s 23 0 48 ((s.1 23 0 48) + 1)).1 63 j1 z2), vI ((sI s 23 0 48 ((s.1 23 0 48) + 1)).1 64 j3 z4)] [] s21)))))))
  else
   (some (some none, s)) :=
  (sm_go_x (cd := cd_X13_works) rfl h_X13_works 400 0 _ _ _).trans rfl

theorem j_act (hm : MC x W q0 f r e) (h4 : 4 ≤ e.1) (h33 : e.1 < 33) (h : MG x mi W (i_g e).2.1 f.2.2.1 (mOps (i_g e).1 f.2.2.2) (i_h e) f.1 r (Int32.ofNat (pos vM x.1 f.2.1 + 1)) fu σ) : ∃ σ', sm_callM X true (d + 12) 261 [vP (23, 0), vI (Int32.ofNat (mOp e)), vI (mNum x.1 e), vI (Int32.ofNat (pos vM x.1 f.2.1))] σ = rV σ' ∧ MO x mi q0 (actM x W f r fu e) σ' := by
  obtain ⟨q, pc, nm, ops⟩ := f
  obtain ⟨op, arg, tgt, pl, ty, g⟩ := e
  have h4 : 4 ≤ op := h4
  have h33 : op < 33 := h33
  match op with
  | 0 => omega
  | 1 => omega
  | 2 => omega
  | 3 => omega
  | 4 => exact j_4 hm h
  | 5 => exact j_5 hm h
  | 6 => exact j_6 hm h
  | 7 => exact j_7 hm h
  | 8 => exact j_8 hm h
  | 9 => exact j_9 hm h
  | 10 => exact j_10 hm h
  | 11 => exact j_11 hm h
  | 12 => exact j_12 hm h
  | 13 => exact j_13 hm h
  | 14 => exact j_14 hm h
  | 15 => exact j_15 hm h
  | 16 => exact j_16 hm h
  | 17 => exact j_17 hm h
  | 18 => exact j_18 hm h
  | 19 => exact j_19 hm h
  | 20 => exact j_20 hm h
  | 21 => exact j_21 hm h
  | 22 => exact j_22 hm h
  | 23 => exact j_23 hm h
  | 24 => exact j_24 hm h
  | 25 => exact j_25 hm h
  | 26 => exact j_26 hm h
  | 27 => exact j_27 hm h
  | 28 => exact j_28 hm h
  | 29 => exact j_29 hm h
  | 30 => exact j_30 hm h
  | 31 => exact j_31 hm h
  | 32 => exact j_32 hm h
  | n + 33 => omega
theorem m_drop (h : MG x mi W K nm (c :: L) H q r nx fu σ) : MG x mi W K nm L H q r nx fu (sI σ 23 0 37 (σ.1 23 0 37 - 1)) := by
  obtain ⟨w, h1, h2, h3, h4, h5, h6, h7, ⟨a1, a2, a3, a4, a5, a6⟩, h12, h13, h14, h15⟩ := h
  rw [List.length_cons] at h3 h14
  rw [h3, show hM x.1 r + (L.length + 1) = hM x.1 r + L.length + 1 from rfl, i_pred]
  refine ⟨w, h1, h2, by rw [gI, if_pos ⟨rfl, rfl, rfl⟩], h4, h5, h6, h7, ⟨a1, a2, a3, a4, fun i e hi => ?_, a6⟩, MF_s (σ := σ) r (fun j hj => rfl) (fun j _ => rfl) (fun j _ => ⟨rfl, rfl, rfl⟩) h12, TrM_s (σ := σ) rfl (fun t j h1 h2 _ => by rw [gI, if_neg (by omega)]) h13, by omega, h15⟩
  have := a5 (i + 1) e hi
  rw [List.length_cons, show L.length + 1 - 1 - (i + 1) = L.length - 1 - i by omega] at this
  exact this
noncomputable abbrev lpM (X : Nat × (Nat → Int32)) (d : Nat) (d1 d2 d3 : sm_V) (σ : sm_S) : sm_R := sm_go (sm_ZZ X) sm_PP true (sm_callM X true d) 260 0 [vP (23, 0), d1, d2, d3] [] σ
theorem lpM_end {z : Int32 × Int32 × Int32 × zW × Nat} (h : ME x mi q0 z σ) : lpM X d d1 d2 d3 σ = rV σ := by
  unfold lpM
  rw [q_works, h.2.2.2.1, if_neg (show ¬ (1 : Int32) = 0 by decide)]
theorem TrM_cons {T : List (Nat × Nat × Nat)} {l : List zI} {dp bt : Nat} (h : TrM l T σ) (h47 : σ'.1 23 0 47 = Int32.ofNat (T.length + 1)) (h8 : ∀ t j, 86 ≤ t → t ≤ 89 → j < T.length → σ'.1 t 0 j = σ.1 t 0 j) (h86 : σ'.1 86 0 T.length = Int32.ofNat (pos vM l (tgO l j))) (h87 : σ'.1 87 0 T.length = Int32.ofNat dp) (h88 : σ'.1 88 0 T.length = Int32.ofNat bt) (h89 : σ'.1 89 0 T.length = agO l j) : TrM l ((j, dp, bt) :: T) σ' := by
  refine ⟨h47, fun i j' dp' bt' hi => ?_⟩
  rw [List.length_cons]
  cases i with
  | zero =>
    have hi : (j, dp, bt) = (j', dp', bt') := Option.some.inj hi
    injection hi with e1 e2
    injection e2 with e2 e3
    subst e1 e2 e3
    rw [show T.length + 1 - 1 - 0 = T.length by omega]
    exact ⟨h86, h87, h88, h89⟩
  | succ i =>
    have hi : T[i]? = some (j', dp', bt') := hi
    have := (List.getElem?_eq_some_iff.mp hi).1
    obtain ⟨k1, k2, k3, k4⟩ := h.2 i j' dp' bt' hi
    rw [show T.length + 1 - 1 - (i + 1) = T.length - 1 - i by omega]
    exact ⟨by rw [h8 86 _ (by omega) (by omega) (by omega)]; exact k1, by rw [h8 87 _ (by omega) (by omega) (by omega)]; exact k2, by rw [h8 88 _ (by omega) (by omega) (by omega)]; exact k3, by rw [h8 89 _ (by omega) (by omega) (by omega)]; exact k4⟩
/-- a try begins: the state behind it -/
theorem mt_try (hx : WTx x) (hi : x.1[pc]? = some (33, arg, tgt, pl, ty, g)) (h : MG x mi W K nm [] H q r nx fu σ) (hT : (trF x.1 H r ++ trR x.1 r).length < 200) : MG x mi W K nm [] (pc :: H) q r nx fu (sI (sI (sI (sI (sI σ 86 0 (trF x.1 H r ++ trR x.1 r).length (Int32.ofNat (pos vM x.1 tgt))) 87 0 (trF x.1 H r ++ trR x.1 r).length (Int32.ofNat r.length)) 88 0 (trF x.1 H r ++ trR x.1 r).length (Int32.ofNat (hM x.1 r))) 89 0 (trF x.1 H r ++ trR x.1 r).length arg) 23 0 47 (Int32.ofNat ((trF x.1 H r ++ trR x.1 r).length + 1))) := by
  obtain ⟨w, h1, h2, h3, h4, h5, h6, h7, h11, h12, h13, h14, h15⟩ := h
  have tg : tgO x.1 pc = tgt := by unfold tgO; rw [hi]; rfl
  have ag : agO x.1 pc = arg := by unfold agO; rw [hi]; rfl
  refine ⟨MW_i (σ := σ) (fun t i k ht => ?_) w, MTx_s (σ := σ) (fun t k ht => ?_) h1, h2, h3, h4, h5, h6, h7, MF1_s (σ := σ) (fun j _ => rfl) (fun j _ => rfl) (fun j _ => ⟨rfl, rfl, rfl⟩) h11, MF_s (σ := σ) r (fun j _ => rfl) (fun j _ => rfl) (fun j _ => ⟨rfl, rfl, rfl⟩) h12, ?_, h14, h15⟩
  · rw [gI, if_neg (by omega), gI, if_neg (by omega), gI, if_neg (by omega), gI, if_neg (by omega), gI, if_neg (by omega)]
  · rw [gI, if_neg (by omega), gI, if_neg (by omega), gI, if_neg (by omega), gI, if_neg (by omega), gI, if_neg (by omega)]
  · show TrM x.1 ((pc, r.length, hM x.1 r) :: (trF x.1 H r ++ trR x.1 r)) _
    refine TrM_cons h13 ?_ (fun t j q1 q2 q3 => ?_) ?_ ?_ ?_ ?_
    · rw [gI, if_pos ⟨rfl, rfl, rfl⟩]
    · rw [gI, if_neg (by omega), gI, if_neg (by omega), gI, if_neg (by omega), gI, if_neg (by omega), gI, if_neg (by omega)]
    · rw [gI, if_neg (by omega), gI, if_neg (by omega), gI, if_neg (by omega), gI, if_neg (by omega), gI, if_pos ⟨rfl, rfl, rfl⟩, tg]
    · rw [gI, if_neg (by omega), gI, if_neg (by omega), gI, if_neg (by omega), gI, if_pos ⟨rfl, rfl, rfl⟩]
    · rw [gI, if_neg (by omega), gI, if_neg (by omega), gI, if_pos ⟨rfl, rfl, rfl⟩]
    · rw [gI, if_neg (by omega), gI, if_pos ⟨rfl, rfl, rfl⟩, ag]
/-- a try is over -/
theorem m_tried {j : Nat} (h : MG x mi W K nm L (j :: H) q r nx fu σ) : MG x mi W K nm L H q r nx fu (sI σ 23 0 47 (Int32.ofNat (trF x.1 H r ++ trR x.1 r).length)) ∧ σ.1 23 0 47 = Int32.ofNat ((trF x.1 H r ++ trR x.1 r).length + 1) := by
  obtain ⟨w, h1, h2, h3, h4, h5, h6, h7, h11, h12, h13, h14, h15⟩ := h
  have h13 : TrM x.1 ((j, r.length, hM x.1 r) :: (trF x.1 H r ++ trR x.1 r)) σ := h13
  obtain ⟨t1, t2⟩ := h13
  rw [List.length_cons] at t1 t2
  refine ⟨⟨w, h1, h2, h3, h4, h5, h6, h7, MF1_s (σ := σ) (fun j _ => rfl) (fun j _ => rfl) (fun j _ => ⟨rfl, rfl, rfl⟩) h11, MF_s (σ := σ) r (fun j _ => rfl) (fun j _ => rfl) (fun j _ => ⟨rfl, rfl, rfl⟩) h12, ⟨by rw [gI, if_pos ⟨rfl, rfl, rfl⟩], fun i j' dp' bt' hi => ?_⟩, h14, h15⟩, t1⟩
  have hlt := (List.getElem?_eq_some_iff.mp hi).1
  have := t2 (i + 1) j' dp' bt' hi
  rw [show (trF x.1 H r ++ trR x.1 r).length + 1 - 1 - (i + 1) = (trF x.1 H r ++ trR x.1 r).length - 1 - i by omega] at this
  exact this
/-- one item of the reference's code -/
theorem m_step (hfu : fu < 10000) (hm : MC x W q0 f r e) (hv : vM e.1 = true) (h : MG x mi W (i_g e).2.1 f.2.2.1 (mOps (i_g e).1 f.2.2.2) (i_h e) f.1 r (Int32.ofNat (pos vM x.1 f.2.1)) fu σ) : ∃ σ' e1 e2 e3, lpM X (d + 12) d1 d2 d3 σ = lpM X (d + 12) e1 e2 e3 σ' ∧ MO x mi q0 (stepM x W (f :: r) fu) σ' := by
  have hx := hm.1
  have hie := hm.2.2.2.1
  have hlen := hx.2.2.2.1
  have hk := (List.getElem?_eq_some_iff.mp hie).1
  have hp := pos_le (v := vM) (l := x.1) (k := f.2.1)
  obtain ⟨v1, v2, v3, v4⟩ := h.2.1.1.2.1 _ e hie hv
  have hst := stepM_e (x := x) (W := W) (r := r) (fu := fu) hie
  have hg1 := MG_nx (nx' := Int32.ofNat (pos vM x.1 f.2.1 + 1)) h
  have h6 := h.2.2.1
  have h48 := h.2.2.2.2.2.1
  have e6 : (sI σ 23 0 48 (Int32.ofNat (pos vM x.1 f.2.1 + 1))).2.2.1 23 0 6 = (22, mi) := h6
  have e63 : (sI σ 23 0 48 (Int32.ofNat (pos vM x.1 f.2.1 + 1))).1 63 mi (pos vM x.1 f.2.1) = Int32.ofNat (mOp e) := v1
  have e64 : (sI σ 23 0 48 (Int32.ofNat (pos vM x.1 f.2.1 + 1))).1 64 mi (pos vM x.1 f.2.1) = mNum x.1 e := v2
  have e49 : (sI σ 23 0 48 (Int32.ofNat (pos vM x.1 f.2.1 + 1))).1 23 0 49 = Int32.ofNat fu := h.2.2.2.2.2.2.1
  unfold lpM
  rw [q_works, h.2.2.2.2.2.2.2.1.1, if_pos rfl, h48, i_s, e6, rq_t, ix_nat (by omega) (by omega), rq_t, ix_nat (by omega) (by omega), e63, e64, hst]
  have mop : ∀ n, n < 100 → mOp e = n → (Int32.ofNat (mOp e) < 25 ↔ n < 25) ∧ (Int32.ofNat (mOp e) = 25 ↔ n = 25) ∧ (Int32.ofNat (mOp e) = 26 ↔ n = 26) ∧ (Int32.ofNat (mOp e) = 27 ↔ n = 27) ∧ (Int32.ofNat (mOp e) = 28 ↔ n = 28) := fun n hn he => by
    rw [he]
    exact ⟨by rw [show (25 : Int32) = Int32.ofNat 25 from rfl, i_lt (by omega) (by omega)], by rw [show (25 : Int32) = Int32.ofNat 25 from rfl, i_eq (by omega) (by omega)], by rw [show (26 : Int32) = Int32.ofNat 26 from rfl, i_eq (by omega) (by omega)], by rw [show (27 : Int32) = Int32.ofNat 27 from rfl, i_eq (by omega) (by omega)], by rw [show (28 : Int32) = Int32.ofNat 28 from rfl, i_eq (by omega) (by omega)]⟩
  by_cases z : 4 ≤ e.1 ∧ e.1 < 33
  · have hmo : mOp e < 25 := by
      obtain ⟨op, arg, tgt, pl, ty, g⟩ := e
      have z1 : 4 ≤ op := z.1
      have z2 : op < 33 := z.2
      match op with
      | 0 => omega
      | 1 => omega
      | 2 => omega
      | 3 => omega
      | 24 => show (if arg = 1 then 23 else 24) < 25; split <;> omega
      | 4 => show mOp (4, arg, tgt, pl, ty, g) < 25; exact Nat.le_of_ble_eq_true rfl
      | 5 => show mOp (5, arg, tgt, pl, ty, g) < 25; exact Nat.le_of_ble_eq_true rfl
      | 6 => show mOp (6, arg, tgt, pl, ty, g) < 25; exact Nat.le_of_ble_eq_true rfl
      | 7 => show mOp (7, arg, tgt, pl, ty, g) < 25; exact Nat.le_of_ble_eq_true rfl
      | 8 => show mOp (8, arg, tgt, pl, ty, g) < 25; exact Nat.le_of_ble_eq_true rfl
      | 9 => show mOp (9, arg, tgt, pl, ty, g) < 25; exact Nat.le_of_ble_eq_true rfl
      | 10 => show mOp (10, arg, tgt, pl, ty, g) < 25; exact Nat.le_of_ble_eq_true rfl
      | 11 => show mOp (11, arg, tgt, pl, ty, g) < 25; exact Nat.le_of_ble_eq_true rfl
      | 12 => show mOp (12, arg, tgt, pl, ty, g) < 25; exact Nat.le_of_ble_eq_true rfl
      | 13 => show mOp (13, arg, tgt, pl, ty, g) < 25; exact Nat.le_of_ble_eq_true rfl
      | 14 => show mOp (14, arg, tgt, pl, ty, g) < 25; exact Nat.le_of_ble_eq_true rfl
      | 15 => show mOp (15, arg, tgt, pl, ty, g) < 25; exact Nat.le_of_ble_eq_true rfl
      | 16 => show mOp (16, arg, tgt, pl, ty, g) < 25; exact Nat.le_of_ble_eq_true rfl
      | 17 => show mOp (17, arg, tgt, pl, ty, g) < 25; exact Nat.le_of_ble_eq_true rfl
      | 18 => show mOp (18, arg, tgt, pl, ty, g) < 25; exact Nat.le_of_ble_eq_true rfl
      | 19 => show mOp (19, arg, tgt, pl, ty, g) < 25; exact Nat.le_of_ble_eq_true rfl
      | 20 => show mOp (20, arg, tgt, pl, ty, g) < 25; exact Nat.le_of_ble_eq_true rfl
      | 21 => show mOp (21, arg, tgt, pl, ty, g) < 25; exact Nat.le_of_ble_eq_true rfl
      | 22 => show mOp (22, arg, tgt, pl, ty, g) < 25; exact Nat.le_of_ble_eq_true rfl
      | 23 => show mOp (23, arg, tgt, pl, ty, g) < 25; exact Nat.le_of_ble_eq_true rfl
      | 25 => show mOp (25, arg, tgt, pl, ty, g) < 25; exact Nat.le_of_ble_eq_true rfl
      | 26 => show mOp (26, arg, tgt, pl, ty, g) < 25; exact Nat.le_of_ble_eq_true rfl
      | 27 => show mOp (27, arg, tgt, pl, ty, g) < 25; exact Nat.le_of_ble_eq_true rfl
      | 28 => show mOp (28, arg, tgt, pl, ty, g) < 25; exact Nat.le_of_ble_eq_true rfl
      | 29 => show mOp (29, arg, tgt, pl, ty, g) < 25; exact Nat.le_of_ble_eq_true rfl
      | 30 => show mOp (30, arg, tgt, pl, ty, g) < 25; exact Nat.le_of_ble_eq_true rfl
      | 31 => show mOp (31, arg, tgt, pl, ty, g) < 25; exact Nat.le_of_ble_eq_true rfl
      | 32 => show mOp (32, arg, tgt, pl, ty, g) < 25; exact Nat.le_of_ble_eq_true rfl
      | n + 33 => omega
    rw [if_pos z, if_pos ((mop _ (by omega) rfl).1.mpr hmo), e49]
    cases fu with
    | zero =>
      obtain ⟨σ1, f1, f2⟩ := m_endE (X := X) (d := d + 11) (v := 0) (why := 7) (q0 := q0) hg1 hlen hie hv (by decide) (by decide)
      have f1 : sm_callM X true (d + 12) 255 [vP (23, 0), vI 7, vI (Int32.ofNat (pos vM x.1 f.2.1))] _ = rV σ1 := f1
      rw [if_pos (show Int32.ofNat 0 = 0 from rfl), f1, bV_r]
      exact ⟨σ1, vU, vU, vU, (lpM_end (X := X) (d := d + 12) f2).symm, f2⟩
    | succ fu =>
      have e12 : Int32.ofNat (fu + 1) - 1 = Int32.ofNat fu := i_pred
      have hg2 := MG_fu (fu' := fu) hg1
      obtain ⟨σ1, f1, f2⟩ := j_act (X := X) (d := d) hm z.1 z.2 hg2
      rw [if_neg (by rw [show (0 : Int32) = Int32.ofNat 0 from rfl, i_eq (by omega) (by omega)]; omega), e12, f1, bV_r]
      exact ⟨σ1, _, _, _, rfl, f2⟩
  · rw [if_neg z]
    obtain ⟨q, pc, nm, ops⟩ := f
    obtain ⟨op, arg, tgt, pl, ty, g⟩ := e
    obtain ⟨t, s, hW⟩ := MC_t hm
    have z : ¬ (4 ≤ op ∧ op < 33) := z
    have hj := (wt_ok hx hie).2.2.1
    have hL := (wt_ok hx hie).2.1
    have hpos : pos vM x.1 (pc + 1) = pos vM x.1 pc + 1 := by rw [pos_s hie, if_pos (show vM (op, arg, tgt, pl, ty, g).1 = true from hv)]
    by_cases z4 : op < 4
    · match op, z4 with
      | 0, _ =>
        have hL0 : Lands x.1 none tgt g := hj.1
        obtain ⟨e', l1, l2, l3, l4, l5, l6⟩ := Lands_0 hL0
        have m := mop 26 (by omega) rfl
        rw [if_neg (fun y => by have := m.1.mp y; omega), if_neg (fun y => by have := m.2.1.mp y; omega), if_pos (m.2.2.1.mpr rfl)]
        refine ⟨_, _, _, _, rfl, (q, tgt, nm, ops), r, e', rfl, l1, ?_⟩
        show MG x mi W (i_g e').2.1 nm (mOps (i_g e').1 ops) (i_h e') q r (Int32.ofNat (pos vM x.1 tgt)) fu _
        have l3 : (i_g e').1 = g.1 := l3
        have l6 : i_h e' = g.2.2.2 := l6
        rw [l3, l6]
        exact MG_k (fun y hy => l4 y hy) (MG_nx hg1)
      | 1, _ =>
        obtain ⟨t, S, t1, t2⟩ := t
        have m := mop 25 (by omega) rfl
        rw [if_neg (fun y => by have := m.1.mp y; omega), if_pos (m.2.1.mpr rfl)]
        obtain ⟨c0, r1, rfl, -, -⟩ := ops1 hm t1
        have t1 : g.1 = t :: S := t1
        have hg1 : MG x mi W g.2.1 nm (mOps g.1 (c0 :: r1)) g.2.2.2 q r (Int32.ofNat (pos vM x.1 pc + 1)) fu (sI σ 23 0 48 (Int32.ofNat (pos vM x.1 pc + 1))) := hg1
        rw [t1, mOps_c t2] at hg1
        refine ⟨_, _, _, _, rfl, MO_go hm rfl rfl (by simp) ?_ (m_drop hg1)⟩
        show _ = mOps (g.1.drop 1) r1
        rw [t1]; rfl
      | 2, _ => exact absurd (show vM 2 = true from hv) (by decide)
      | 3, _ =>
        have m := mop 29 (by omega) rfl
        obtain ⟨p, c3, c5⟩ := (cur_ok hm.2.2.1 hie).2.2.1
        have c5 : p.2.1 = g.2.2.1 := c5
        have h39 : (sI σ 23 0 48 (Int32.ofNat (pos vM x.1 pc + 1))).1 23 0 39 = Int32.ofNat r.length := h.2.2.2.2.1
        have h84 : (sI σ 23 0 48 (Int32.ofNat (pos vM x.1 pc + 1))).1 84 0 r.length = Int32.ofNat q := h.2.2.2.2.2.2.2.2.1.2.1
        have hr := h.2.2.2.2.2.2.2.2.2.2.2.2
        obtain ⟨-, p12, hq⟩ := h.2.1.2
        have hq12 := (List.getElem?_eq_some_iff.mp c3).1
        have hq12 : q < x.2.2.length := hq12
        have h59 : (sI σ 23 0 48 (Int32.ofNat (pos vM x.1 pc + 1))).1 59 mi q = p.2.1 := (hq q p c3).2.2.2.2.1
        rw [if_neg (fun y => by have := m.1.mp y; omega), if_neg (fun y => by have := m.2.1.mp y; omega), if_neg (fun y => by have := m.2.2.1.mp y; omega), if_neg (fun y => by have := m.2.2.2.1.mp y; omega), if_neg (fun y => by have := m.2.2.2.2.mp y; omega), rq_t, h39, ix_nat (by omega) (by omega), h84, ix_nat (by omega) (by omega), h59, c5]
        by_cases w : g.2.2.1 = 38
        · obtain ⟨σ2, e2, h2⟩ := m_leave (X := X) (d := d + 10) (v := 0) (wv := 0) (is := 0) hm hg1 (fun y => absurd w y) (fun _ => ⟨rfl, rfl⟩) ⟨fun _ => w, fun _ => rfl⟩
          have e2 : sm_callM X true (d + 12) 257 [vP (23, 0), vI 0, vI 0] _ = rV σ2 := e2
          rw [if_pos w, e2, bV_r]
          exact ⟨σ2, _, _, _, rfl, h2⟩
        · obtain ⟨σ2, e2, h2⟩ := m_leave (X := X) (d := d + 10) (v := 0) (wv := 0) (is := 1) hm hg1 (fun y => by rw [mV_0]) (fun _ => ⟨rfl, rfl⟩) ⟨fun y => absurd y (by decide), fun y => absurd y w⟩
          have e2 : sm_callM X true (d + 12) 257 [vP (23, 0), vI 0, vI 1] _ = rV σ2 := e2
          rw [if_neg w, e2, bV_r]
          exact ⟨σ2, _, _, _, rfl, h2⟩
      | n + 4, z4 => omega
    · obtain ⟨n, rfl⟩ : ∃ n, op = n + 33 := ⟨op - 33, by omega⟩
      match n with
      | 0 =>
        have m := mop 27 (by omega) rfl
        have t : g.1 = [] := t
        have hi33 : x.1[pc]? = some (33, arg, tgt, pl, ty, g) := hie
        have hg1 : MG x mi W g.2.1 nm (mOps g.1 ops) g.2.2.2 q r (Int32.ofNat (pos vM x.1 pc + 1)) fu (sI σ 23 0 48 (Int32.ofNat (pos vM x.1 pc + 1))) := hg1
        have hnil : mOps g.1 ops = [] := by rw [t]; simp [mOps]
        rw [hnil] at hg1
        have hT := trR_len hx ((q, pc, nm, ops) :: r)
        rw [List.length_cons, trR_hd hi33] at hT
        have hT : (trF x.1 g.2.2.2 r ++ trR x.1 r).length ≤ 8 * (r.length + 1) := hT
        have hl : r.length + 1 ≤ 15 := hm.2.2.2.2.1
        have hlt : (trF x.1 g.2.2.2 r ++ trR x.1 r).length < 200 := by omega
        have hfin := mt_try hx hi33 hg1 hlt
        have h47 := hg1.2.2.2.2.2.2.2.2.2.2.1.1
        have hpc4 : pos vM x.1 pc < 4000 := Nat.lt_of_le_of_lt hp (Nat.lt_of_lt_of_le hk (Nat.le_trans hlen (by omega)))
        have h39 := hg1.2.2.2.2.1
        have h37 := hg1.2.2.2.1
        have v65 : σ.1 65 mi (pos vM x.1 pc) = arg := v3
        have hN : mNum x.1 (0 + 33, arg, tgt, pl, ty, g) = Int32.ofNat (pos vM x.1 tgt) := rfl
        rw [if_neg (fun y => by have := m.1.mp y; omega), if_neg (fun y => by have := m.2.1.mp y; omega), if_neg (fun y => by have := m.2.2.1.mp y; omega), if_pos (m.2.2.2.1.mpr rfl), hN]
        have h37 : (sI σ 23 0 48 (Int32.ofNat (pos vM x.1 pc + 1))).1 23 0 37 = Int32.ofNat (hM x.1 r) := h37
        generalize hT0 : sI σ 23 0 48 (Int32.ofNat (pos vM x.1 pc + 1)) = T0 at h47 h39 h37 hfin e6 ⊢
        generalize hn : (trF x.1 g.2.2.2 r ++ trR x.1 r).length = nt at h47 hlt hfin ⊢
        have w65 : T0.1 65 mi (pos vM x.1 pc) = arg := by rw [← hT0]; exact v65
        have a1 : (sI T0 86 0 nt (Int32.ofNat (pos vM x.1 tgt))).1 23 0 47 = Int32.ofNat nt := h47
        have a2 : (sI T0 86 0 nt (Int32.ofNat (pos vM x.1 tgt))).1 23 0 39 = Int32.ofNat r.length := h39
        have a3 : (sI (sI T0 86 0 nt (Int32.ofNat (pos vM x.1 tgt))) 87 0 nt (Int32.ofNat r.length)).1 23 0 47 = Int32.ofNat nt := h47
        have a4 : (sI (sI T0 86 0 nt (Int32.ofNat (pos vM x.1 tgt))) 87 0 nt (Int32.ofNat r.length)).1 23 0 37 = Int32.ofNat (hM x.1 r) := h37
        have a5 : (sI (sI (sI T0 86 0 nt (Int32.ofNat (pos vM x.1 tgt))) 87 0 nt (Int32.ofNat r.length)) 88 0 nt (Int32.ofNat (hM x.1 r))).2.2.1 23 0 6 = (22, mi) := e6
        have a6 : (sI (sI (sI T0 86 0 nt (Int32.ofNat (pos vM x.1 tgt))) 87 0 nt (Int32.ofNat r.length)) 88 0 nt (Int32.ofNat (hM x.1 r))).1 23 0 47 = Int32.ofNat nt := h47
        have a7 : (sI (sI (sI T0 86 0 nt (Int32.ofNat (pos vM x.1 tgt))) 87 0 nt (Int32.ofNat r.length)) 88 0 nt (Int32.ofNat (hM x.1 r))).1 65 mi (pos vM x.1 pc) = arg := w65
        have a8 : (sI (sI (sI (sI T0 86 0 nt (Int32.ofNat (pos vM x.1 tgt))) 87 0 nt (Int32.ofNat r.length)) 88 0 nt (Int32.ofNat (hM x.1 r))) 89 0 nt arg).1 23 0 47 = Int32.ofNat nt := h47
        rw [h47, ix_nat hlt (by omega), a1, ix_nat hlt (by omega), a2, a3, ix_nat hlt (by omega), a4, a5, rq_t, ix_nat hpc4 (by omega), a6, ix_nat hlt (by omega), a7, a8, i_s]
        have hL := hL rfl
        have hL : Lands x.1 none (pc + 1) (g.1, g.2.1, g.2.2.1, pc :: g.2.2.2) := hL
        obtain ⟨e', l1, l2, l3, l4, l5, l6⟩ := Lands_0 hL
        have l3 : (i_g e').1 = g.1 := l3
        have l6 : i_h e' = pc :: g.2.2.2 := l6
        refine ⟨_, _, _, _, rfl, (q, pc + 1, nm, ops), r, e', rfl, l1, ?_⟩
        show MG x mi W (i_g e').2.1 nm (mOps (i_g e').1 ops) (i_h e') q r (Int32.ofNat (pos vM x.1 (pc + 1))) fu _
        rw [l3, l6, hnil, hpos]
        exact MG_k (fun y hy => l4 y hy) hfin
      | 1 =>
        have m := mop 28 (by omega) rfl
        obtain ⟨t1, j, H, t2⟩ := t
        have t1 : g.1 = [] := t1
        have t2 : g.2.2.2 = j :: H := t2
        have hg1 : MG x mi W g.2.1 nm (mOps g.1 ops) g.2.2.2 q r (Int32.ofNat (pos vM x.1 pc + 1)) fu (sI σ 23 0 48 (Int32.ofNat (pos vM x.1 pc + 1))) := hg1
        rw [t2] at hg1
        obtain ⟨h2, h3⟩ := m_tried hg1
        rw [if_neg (fun y => by have := m.1.mp y; omega), if_neg (fun y => by have := m.2.1.mp y; omega), if_neg (fun y => by have := m.2.2.1.mp y; omega), if_neg (fun y => by have := m.2.2.2.1.mp y; omega), if_pos (m.2.2.2.2.mpr rfl), h3, i_pred]
        have hL := hL rfl
        have hL : Lands x.1 none (pc + 1) (g.1, g.2.1, g.2.2.1, g.2.2.2.tail) := hL
        obtain ⟨e', l1, l2, l3, l4, l5, l6⟩ := Lands_0 hL
        have l3 : (i_g e').1 = g.1 := l3
        have l6 : i_h e' = g.2.2.2.tail := l6
        refine ⟨_, _, _, _, rfl, (q, pc + 1, nm, ops), r, e', rfl, l1, ?_⟩
        show MG x mi W (i_g e').2.1 nm (mOps (i_g e').1 ops) (i_h e') q r (Int32.ofNat (pos vM x.1 (pc + 1))) fu _
        rw [l3, l6, t2, hpos]
        exact MG_k (fun y hy => l4 y hy) h2
      | 2 => exact absurd (show vM 35 = true from hv) (by decide)
      | n + 3 => exact absurd t (by unfold tOk; simp)
theorem m_loop (hx : WTx x) : ∀ (n : Nat) (W : zW) (F : List zFr) (fu : Nat) (σ : sm_S) (d1 d2 d3 : sm_V) (z : Int32 × Int32 × Int32 × zW × Nat), MS x W q0 F → pot x F fu < n → n ≤ 4000000 → MMn x mi W F fu σ → runM x n W F fu = .inr z → ∃ σ', lpM X (d + 12) d1 d2 d3 σ = rV σ' ∧ ME x mi q0 z σ'
  | 0, _, _, _, _, _, _, _, _, _, h, _, _, _ => by omega
  | n + 1, W, F, fu, σ, d1, d2, d3, z, h, hp, hn, hM, hr => by
    have hMS := h
    have k := step_ok (fu := fu) h
    rw [runM] at hr
    have hfu : fu < 10000 := by unfold pot at hp; omega
    obtain ⟨f, r, e, hF, h1, hg⟩ := hM
    subst hF
    obtain ⟨hx', hW, hFs, hl, hb⟩ := h
    have hm : MC x W q0 f r e := ⟨hx, hW, hFs, h1, hl, hb⟩
    by_cases hv : vM e.1 = true
    · obtain ⟨σ1, e1, e2, e3, f1, f2⟩ := m_step (X := X) (d := d) (d1 := d1) (d2 := d2) (d3 := d3) hfu hm hv hg
      rw [f1]
      cases hs : stepM x W (f :: r) fu with
      | inr z' =>
        rw [hs] at hr f2
        have hz : z' = z := Sum.inr.inj hr
        subst hz
        exact ⟨σ1, lpM_end f2, f2⟩
      | inl y =>
        rw [hs] at hr k f2
        have hp' := step_pot hMS hs
        have hMS' : MS x y.1 q0 y.2.1 := ⟨hx, k.2.1, k.2.2.1, k.2.2.2.1, k.2.2.2.2⟩
        exact m_loop hx n y.1 y.2.1 y.2.2 σ1 e1 e2 e3 z hMS' (by omega) (by omega) f2 hr
    · have h2e : e.1 ≠ 2 := by
        obtain ⟨e', S, g1, g2, -⟩ := hFs
        rw [h1] at g1
        cases g1
        exact g2
      have hop : e.1 = 35 := by
        unfold vM at hv
        have hv : ¬ e.1 = 2 → e.1 = 35 := by simpa using hv
        exact hv h2e
      have hs : stepM x W (f :: r) fu = goM W f r fu (f.2.2.2.drop 1) := by
        rw [stepM_e h1, if_neg (by omega)]
        obtain ⟨op, arg, tgt, pl, ty, g⟩ := e
        have hop : op = 35 := hop
        subst hop; rfl
      have hp' := step_pot hMS hs
      rw [hs] at hr k
      have hMS' : MS x W q0 ((f.1, f.2.1 + 1, f.2.2.1, f.2.2.2.drop 1) :: r) := ⟨hx, k.2.1, k.2.2.1, k.2.2.2.1, k.2.2.2.2⟩
      have hM' : MMn x mi W ((f.1, f.2.1 + 1, f.2.2.1, f.2.2.2.drop 1) :: r) fu σ := by
        obtain ⟨q, pc, nm, ops⟩ := f
        obtain ⟨op, arg, tgt, pl, ty, g⟩ := e
        have hop : op = 35 := hop
        subst hop
        obtain ⟨⟨S, t1⟩, -, -⟩ := MC_t hm
        have hL0 := (wt_ok hx h1).2.1 rfl
        obtain ⟨c0, r1, rfl, -, -⟩ := ops1 hm t1
        have hL : Lands x.1 none (pc + 1) (g.1.drop 1, g.2) := hL0
        have t1 : g.1 = 38 :: S := t1
        rw [t1] at hL
        obtain ⟨e', l1, l2, l3, l4, l5, l6⟩ := Lands_0 hL
        have l3 : (i_g e').1 = S := l3
        have l6 : i_h e' = g.2.2.2 := l6
        refine ⟨(q, pc + 1, nm, r1), r, e', rfl, l1, ?_⟩
        show MG x mi W (i_g e').2.1 nm (mOps (i_g e').1 r1) (i_h e') q r (Int32.ofNat (pos vM x.1 (pc + 1))) fu σ
        have hg : MG x mi W g.2.1 nm (mOps g.1 (c0 :: r1)) g.2.2.2 q r (Int32.ofNat (pos vM x.1 pc)) fu σ := hg
        rw [t1, mOps_0] at hg
        rw [pos_s h1, if_neg hv, l3, l6]
        exact MG_k (fun y hy => l4 y hy) hg
      exact m_loop hx n W _ fu σ d1 d2 d3 z hMS' (Nat.lt_of_lt_of_le hp' (by omega)) (by omega) hM' hr
end
