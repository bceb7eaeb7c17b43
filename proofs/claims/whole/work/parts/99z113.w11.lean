section
/-! TRY AND BLOCKS IN THE REFERENCE -/
variable {X : Nat × (Nat → Int32)} {d : Nat} {s σ : sm_S} {mi N : Nat} {O : Nat → Nat → Nat → Int32} {T : zT} {a b : zA} {t : Int32} {blk : zA → zR}
theorem pb_must {c : Int32} {k : Int32 → zA → zR} : pb (zMust T c a) k = if T.1 (a_p a) = c then pb (zN a) k else .inl (1, a_p a) := by
  unfold zMust
  by_cases q : T.1 (a_p a) = c
  · rw [if_pos q, if_pos q]
  · rw [if_neg q, if_neg q]; rfl
theorem m_try {r : Nat} (hT : TK T N) (hB : BM X d mi O T N blk r) (hD : SubB tyOk blk) (hS : SM mi O T N a σ) (hk : T.1 (a_p a) = 205) (hr : a_r a = r) : SMV mi O T N (sm_callM X true (d + 21) 223 [vP (23, 0)] σ) (zTry T blk a) := by
  obtain ⟨h, hi, hb, hq, hne⟩ := hS
  rw [f_X13_attempts, q_X13_attempts_0]
  unfold zTry
  refine mbVV (m_next (d := d + 18) hT h (by rw [hk]; decide) (by rw [hk]; decide)) (fun _ a1 σ1 e1 h1 => ?_)
  have i1 := In0_N e1 hi
  obtain ⟨n1, e1⟩ := zN_inr.mp e1
  have E1 : a1 = aP a (a_p a + 1) := congrArg Prod.snd e1
  have z1 : zL a1 = zL a := by rw [E1]; rfl
  have p1 : a_p a1 = a_p a + 1 := by rw [E1]; rfl
  have qq1 : a_q a1 = a_q a := by rw [E1]; rfl
  have rr1 : a_r a1 = r := by rw [E1]; exact hr
  have l1 : zL a1 < 900 := by have := PM_len h1; omega
  refine meV (d := d + 19) (op := 33) (tk := 0) (arg := 0) (ty := 0) (pl := -1) (tgt := 0) h1 l1 rfl (Nat.zero_le _) rfl rfl rfl (Or.inl ⟨rfl, rfl⟩) (fun σ2 h2 => ?_)
  have h2 : PM mi O T N (aC (aH (zE a1 33 0 0 0 (-1)) (zL a1 :: a_h a1)) (a_c a1 ++ [zL a1])) σ2 := h2
  have zA1 : zL (aC (aH (zE a1 33 0 0 0 (-1)) (zL a1 :: a_h a1)) (a_c a1 ++ [zL a1])) = zL a1 + 1 := zL_E
  have atA1 : (a_i (aC (aH (zE a1 33 0 0 0 (-1)) (zL a1 :: a_h a1)) (a_c a1 ++ [zL a1])))[zL a1]? = some (33, 0, 0, -1, 0, gNow a1) := by
    show (a_i a1 ++ _)[(a_i a1).length]? = _
    simp
  have pA1 : a_i a1 <+: a_i (aC (aH (zE a1 33 0 0 0 (-1)) (zL a1 :: a_h a1)) (a_c a1 ++ [zL a1])) := Pre_E (a := a1)
  have iA1 : In0 tyOk (aC (aH (zE a1 33 0 0 0 (-1)) (zL a1 :: a_h a1)) (a_c a1 ++ [zL a1])) := i1
  have qA1 : a_q (aC (aH (zE a1 33 0 0 0 (-1)) (zL a1 :: a_h a1)) (a_c a1 ++ [zL a1])) = a_q a := qq1
  have rA1 : a_r (aC (aH (zE a1 33 0 0 0 (-1)) (zL a1 :: a_h a1)) (a_c a1 ++ [zL a1])) = r := rr1
  have PA1 : a_p (aC (aH (zE a1 33 0 0 0 (-1)) (zL a1 :: a_h a1)) (a_c a1 ++ [zL a1])) = a_p a1 := rfl
  generalize aC (aH (zE a1 33 0 0 0 (-1)) (zL a1 :: a_h a1)) (a_c a1 ++ [zL a1]) = A1 at *
  have SA1 : SM mi O T N A1 σ2 := ⟨h2, iA1, by omega, by unfold tyQ; rw [qA1]; exact hq, by rw [qA1]; exact hne⟩
  refine mbVV (hB 20 A1 σ2 SA1 rA1) (fun _ a2 σ3 e3 h3 => ?_)
  obtain ⟨d2, i2, k2⟩ := hD A1 _ a2 (PM_len h2) iA1 e3
  obtain ⟨D1, D2, D3, D4, D5, D6, D7, D8, D9, D10, -⟩ := d2
  have l12 : zL a1 + 1 ≤ zL a2 := by have := D4.length_le; unfold zL at *; omega
  have hp2 := PM_len h3
  have at2 := get_pre D4 atA1
  have py3 : pos vM (a_i a2) (zL a1) = pos vM (a_i a1) (zL a1) := (pos_pre D4 (by show zL a1 ≤ zL A1; omega)).trans (pos_pre pA1 (Nat.le_refl _))
  refine meV (d := d + 19) (op := 34) (tk := 0) (arg := 0) (ty := 0) (pl := -1) (tgt := 0) h3 (by omega) rfl (Nat.zero_le _) rfl rfl rfl (Or.inl ⟨rfl, rfl⟩) (fun σ4 h4 => ?_)
  have h4 : PM mi O T N (aH (zE a2 34 0 0 0 (-1)) (a_h a1)) σ4 := h4
  have zA2 : zL (aH (zE a2 34 0 0 0 (-1)) (a_h a1)) = zL a2 + 1 := zL_E
  have pA2 : a_i a2 <+: a_i (aH (zE a2 34 0 0 0 (-1)) (a_h a1)) := Pre_E (a := a2)
  have iA2 : In0 tyOk (aH (zE a2 34 0 0 0 (-1)) (a_h a1)) := i2
  have PA2 : a_p (aH (zE a2 34 0 0 0 (-1)) (a_h a1)) = a_p a2 := rfl
  have qA2 : a_q (aH (zE a2 34 0 0 0 (-1)) (a_h a1)) = a_q a2 := rfl
  have rA2 : a_r (aH (zE a2 34 0 0 0 (-1)) (a_h a1)) = a_r a2 := rfl
  generalize aH (zE a2 34 0 0 0 (-1)) (a_h a1) = A2 at *
  refine meV (d := d + 19) (op := 0) (tk := 0) (arg := 0) (ty := 0) (pl := -1) (tgt := 0) h4 (by omega) rfl (Nat.zero_le _) rfl rfl rfl (Or.inl ⟨rfl, rfl⟩) (fun σ5 h5 => ?_)
  have zA3 : zL (zE A2 0 0 0 0 (-1)) = zL a2 + 2 := by rw [zL_E]; omega
  have pA3 : a_i A2 <+: a_i (zE A2 0 0 0 0 (-1)) := Pre_E (a := A2)
  have atA3 : (a_i (zE A2 0 0 0 0 (-1)))[zL a2 + 1]? = some (0, 0, 0, -1, 0, gNow A2) := by
    rw [← zA2]
    show (a_i A2 ++ _)[(a_i A2).length]? = _
    simp
  have at3 : (a_i (zE A2 0 0 0 0 (-1)))[zL a1]? = some (33, 0, 0, -1, 0, gNow a1) := get_pre (pA2.trans pA3) at2
  have py3' : pos vM (a_i (zE A2 0 0 0 0 (-1))) (zL a1) = pos vM (a_i a1) (zL a1) := (pos_pre (pA2.trans pA3) (by show zL a1 ≤ zL a2; omega)).trans py3
  have py9 : pos vM (a_i (zE A2 0 0 0 0 (-1))) (zL a2 + 1) = pos vM (a_i A2) (zL A2) := by rw [← zA2]; exact pos_pre pA3 (Nat.le_refl _)
  have iA3 : In0 tyOk (zE A2 0 0 0 0 (-1)) := iA2
  have PA3 : a_p (zE A2 0 0 0 0 (-1)) = a_p a2 := PA2
  have qA3 : a_q (zE A2 0 0 0 0 (-1)) = a_q a2 := qA2
  have rA3 : a_r (zE A2 0 0 0 0 (-1)) = a_r a2 := rA2
  generalize zE A2 0 0 0 0 (-1) = A3 at *
  rw [m_w (j := 6) (c := 206) (w := 6) h5 (by omega) (by decide) rfl, bI_r, pb_must]
  refine mfV (d := d + 18) h5 bz (fun k5 => ?_)
  refine mnV (d := d + 18) hT h5 (by rw [k5]; decide) (by rw [k5]; decide) (fun σ6 n6 h6 => ?_)
  refine mbVV (m_must (d := d + 17) hT h6 (by decide)) (fun _ a4 σ7 e7 h7 => ?_)
  obtain ⟨k7, n7, e7⟩ := zMust_inr.mp e7
  have E4 : a4 = aP (aP A3 (a_p A3 + 1)) (a_p A3 + 1 + 1) := congrArg Prod.snd e7
  unfold zNewN
  rw [pb_pb]
  refine mbVV (m_fresh (d := d + 17) hT h7) (fun _ a5 σ8 e8 h8 => ?_)
  obtain ⟨k8, f8, m8, E8⟩ := zFresh_inr e8
  have E8' : a5 = a4 := congrArg Prod.snd E8
  subst E8'
  have hn := hT.2.2.2.1 _ k8
  rw [PM_ix h8, PM_nm h8 k8, pb_pb]
  refine mnV (d := d + 18) hT h8 (by rw [k8]; decide) (by rw [k8]; decide) (fun σ9 n9 h9 => ?_)
  rw [pb_r]
  have h9 : PM mi O T N (aX (aP a5 (a_p a5 + 1)) (some (T.2.1 (a_p a5), 36))) σ9 := h9
  refine mbVV (m_must (d := d + 17) hT h9 (by decide)) (fun _ a7 σ10 e10 h10 => ?_)
  obtain ⟨k10, n10, e10⟩ := zMust_inr.mp e10
  have E7 : a7 = aP (aX (aP a5 (a_p a5 + 1)) (some (T.2.1 (a_p a5), 36))) (a_p a5 + 1 + 1) := congrArg Prod.snd e10
  have I7 : a_i a7 = a_i A3 := by rw [E7, E4]; rfl
  have z7 : zL a7 = zL a2 + 2 := by unfold zL at *; rw [I7]; exact zA3
  have p7 : a_p a7 = a_p a2 + 4 := by rw [E7]; show a_p a5 + 1 + 1 = _; rw [E4]; show a_p A3 + 1 + 1 + 1 + 1 = _; omega
  have q7 : a_q a7 = a_q a := by rw [E7, E4]; show a_q A3 = _; rw [qA3, D7, qA1]
  have r7 : a_r a7 = r := by rw [E7, E4]; show a_r A3 = _; rw [rA3, D10, rA1]
  have k7' : a_k a7 = a_k A3 := by rw [E7, E4]; rfl
  have m7 : a_m a7 = a_m a5 := by rw [E7]; rfl
  have m7' : a_m a7 = a_m A3 := by rw [E7, E4]; rfl
  have hm24 : a_m a7 ≤ 24 := h10.2.2.2.1.2.2.1
  have w7 : wN a7 = 0 := by rw [E7, E4]; exact iA3.1
  have KB7 : KB tyOk a7 := by unfold KB; rw [k7', m7']; exact iA3.2.2
  have hp10 := PM_len h10
  have at7 : (a_i a7)[zL a1]? = some (33, 0, 0, -1, 0, gNow a1) := by rw [I7]; exact at3
  have h11 := PM_cat (j := (a_c a1).length) (sl := a_m a7) h10 at7 rfl
  have py : pos vM (a_i a7) (zL a1) = pos vM (a_i a1) (zL a1) := by rw [I7]; exact py3'
  have p9a : pos vM (a_i a1) (zL a1) < 900 := by have : pos vM (a_i a1) (zL a1) ≤ zL a1 := pos_le; omega
  rw [py] at h11
  rw [PM_cd h10, rq_t, rq_t, ix4 p9a, show (sI σ10 64 mi (pos vM (a_i a1) (zL a1)) (σ10.1 22 mi 6)).2.2.1 23 0 7 = (22, mi) from (show σ10.2.2.1 23 0 7 = (22, mi) from PM_cd h10), rq_t, ix4 p9a, show (sI σ10 64 mi (pos vM (a_i a1) (zL a1)) (σ10.1 22 mi 6)).1 23 0 15 = Int32.ofNat (a_m a7) from h10.2.2.2.1.1]
  have h12 := m_inv (op := 2) (arg := Int32.ofNat (a_m a5)) (ty := 36) (pl := -1) (tgt := 0) h11 rfl (Nat.zero_le _)
  have m12 : a_m (zE (zCat (zL a1) (a_c a1).length (zL a7) (a_m a7) a7) 2 (Int32.ofNat (a_m a5)) 0 36 (-1)) < 24 := by show a_m a7 < 24; omega
  obtain ⟨σ13, e13, h13⟩ := m_knows (X := X) (d := d + 19) (t := 36) hn h12 m12
  have e13 : sm_callM X true (d + 20) 214 [vP (23, 0), vL (pk8 (T.2.1 (a_p a5)) 0), vI 36] _ = rV σ13 := e13
  rw [e13, bV_r]
  have z13 : zL (zKnow (T.2.1 (a_p a5)) 36 (zE (zCat (zL a1) (a_c a1).length (zL a7) (a_m a7) a7) 2 (Int32.ofNat (a_m a5)) 0 36 (-1))) = zL a7 + 1 := by
    show zL (zE (zCat (zL a1) (a_c a1).length (zL a7) (a_m a7) a7) 2 (Int32.ofNat (a_m a5)) 0 36 (-1)) = _
    rw [zL_E]
    show ((a_i a7).modify _ _).length + 1 = _
    rw [List.length_modify]; rfl
  have at13 : (a_i (zKnow (T.2.1 (a_p a5)) 36 (zE (zCat (zL a1) (a_c a1).length (zL a7) (a_m a7) a7) 2 (Int32.ofNat (a_m a5)) 0 36 (-1))))[zL a2 + 1]? = some (0, 0, 0, -1, 0, gNow A2) := by
    show ((a_i a7).modify (zL a1) _ ++ _)[zL a2 + 1]? = _
    rw [List.getElem?_append_left (by rw [List.length_modify]; show zL a2 + 1 < zL a7; omega), List.getElem?_modify, I7, atA3]
    have hlt : ¬ zL a1 = zL a2 + 1 := by omega
    simp [hlt]
  have py13 : pos vM (a_i (zKnow (T.2.1 (a_p a5)) 36 (zE (zCat (zL a1) (a_c a1).length (zL a7) (a_m a7) a7) 2 (Int32.ofNat (a_m a5)) 0 36 (-1)))) (zL a2 + 1) = pos vM (a_i A2) (zL A2) := by
    show pos vM ((a_i a7).modify (zL a1) _ ++ _) (zL a2 + 1) = _
    rw [pos_app (by rw [List.length_modify]; show zL a2 + 1 ≤ zL a7; omega)]
    refine (pos_mod (f := fun e : zI => (e.1, Int32.ofNat (a_m a7), zL a7, e.2.2.2)) (fun _ => rfl)).trans ?_
    rw [I7]; exact py9
  have i13 : In0 tyOk (zKnow (T.2.1 (a_p a5)) 36 (zE (zCat (zL a1) (a_c a1).length (zL a7) (a_m a7) a7) 2 (Int32.ofNat (a_m a5)) 0 36 (-1))) := ⟨w7, rfl, KB_know (a := zE (zCat (zL a1) (a_c a1).length (zL a7) (a_m a7) a7) 2 (Int32.ofNat (a_m a5)) 0 36 (-1)) KB7 (by show a_m a7 ≠ 24; omega) (Or.inl rfl)⟩
  have q13 : a_q (zKnow (T.2.1 (a_p a5)) 36 (zE (zCat (zL a1) (a_c a1).length (zL a7) (a_m a7) a7) 2 (Int32.ofNat (a_m a5)) 0 36 (-1))) = a_q a := q7
  have r13 : a_r (zKnow (T.2.1 (a_p a5)) 36 (zE (zCat (zL a1) (a_c a1).length (zL a7) (a_m a7) a7) 2 (Int32.ofNat (a_m a5)) 0 36 (-1))) = r := r7
  have p13 : a_p (zKnow (T.2.1 (a_p a5)) 36 (zE (zCat (zL a1) (a_c a1).length (zL a7) (a_m a7) a7) 2 (Int32.ofNat (a_m a5)) 0 36 (-1))) = a_p a7 := rfl
  have k13 : a_k a7 <+: a_k (zKnow (T.2.1 (a_p a5)) 36 (zE (zCat (zL a1) (a_c a1).length (zL a7) (a_m a7) a7) 2 (Int32.ofNat (a_m a5)) 0 36 (-1))) := List.prefix_append _ _
  generalize zKnow (T.2.1 (a_p a5)) 36 (zE (zCat (zL a1) (a_c a1).length (zL a7) (a_m a7) a7) 2 (Int32.ofNat (a_m a5)) 0 36 (-1)) = A13 at *
  have S13 : SM mi O T N A13 σ13 := ⟨h13, i13, by omega, by unfold tyQ; rw [q13]; exact hq, by rw [q13]; exact hne⟩
  refine mbVV (hB 20 A13 σ13 S13 r13) (fun _ a8 σ14 e14 h14 => ?_)
  obtain ⟨d8, i8, k8'⟩ := hD A13 _ a8 (PM_len h13) i13 e14
  have S8 := SM_D S13.2.2.1 S13.2.2.2.1 S13.2.2.2.2 d8 h14 i8
  have h15 := PM_kn (kn := a_k a7) h14 (by rw [k8']; exact k13)
  have at8 : (a_i (aK a8 (a_k a7)))[zL a2 + 1]? = some (0, 0, 0, -1, 0, gNow A2) := get_pre d8.2.2.2.1 at13
  have h16 := PM_aim (k := zL a2 + 1) h15 at8 (Or.inl rfl)
  have py8 : pos vM (a_i (aK a8 (a_k a7))) (zL a2 + 1) = pos vM (a_i A2) (zL A2) := (pos_pre d8.2.2.2.1 (by show zL a2 + 1 ≤ zL A13; omega)).trans py13
  rw [py8] at h16
  have p9b : pos vM (a_i A2) (zL A2) < 900 := by have : pos vM (a_i A2) (zL A2) ≤ zL A2 := pos_le; omega
  have k16 : σ10.1 23 0 16 = Int32.ofNat (a_k a7).length := h10.2.2.2.1.2.1
  rw [show (sI (sI σ10 64 mi (pos vM (a_i a1) (zL a1)) (σ10.1 22 mi 6)) 65 mi (pos vM (a_i a1) (zL a1)) (Int32.ofNat (a_m a7))).1 23 0 16 = Int32.ofNat (a_k a7).length from k16]
  rw [show (sI σ14 23 0 16 (Int32.ofNat (a_k a7).length)).2.2.1 23 0 7 = (22, mi) from (show σ14.2.2.1 23 0 7 = (22, mi) from PM_cd h14), rq_t, rq_t, ix4 p9b]
  exact ⟨_, rfl, h16⟩
end
