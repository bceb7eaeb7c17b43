section
variable {X : Nat × (Nat → Int32)} {d : Nat} {s σ : sm_S} {ci N : Nat} {O : Nat → Nat → Nat → Int32} {T : zT} {a b : zA} {t : Int32} {blk : zA → zR}
theorem c_readTry {r : Nat} (hT : TK T N) (hB : HB X d ci O T N blk r) (hD : SubB tyOk blk) (hS : SH ci O T N a σ) (hk : T.1 (a_p a) = 205) (hr : a_r a = r) (hr8 : r ≤ 8) (hc : 9 * (a_c a).length ≤ a_p a + 9 * r) : SCV ci O T N (sm_callM X true (d + 21) 102 [vP (15, 0), vI (Int32.ofNat r)] σ) (zTry T blk a) := by
  obtain ⟨h, hi, hb, hq, hne⟩ := hS
  have hw := hi.1
  rw [f_X5_readTry, q_X5_readTry_0]
  unfold zTry
  refine cbVV (c_pass (d := d + 19) hT h (by rw [hk]; decide) (by rw [hk]; decide)) (fun _ a1 σ1 e1 h1 => ?_) (fun e σ F => ft_readTry_0_s2 F)
  have i1 := In0_N e1 hi
  obtain ⟨n1, e1⟩ := zN_inr.mp e1
  have E1 : a1 = aP a (a_p a + 1) := congrArg Prod.snd e1
  have z1 : zL a1 = zL a := by rw [E1]; rfl
  have p1 : a_p a1 = a_p a + 1 := by rw [E1]; rfl
  have c1 : (a_c a1).length = (a_c a).length := by rw [E1]; rfl
  have qq1 : a_q a1 = a_q a := by rw [E1]; rfl
  have rr1 : a_r a1 = r := by rw [E1]; exact hr
  have w1 : wN a1 = 0 := i1.1
  have ct100 : (a_c a1).length < 100 := by have := PC_len h1; omega
  have ok1 : okL (a_i a1) (a_c a1) (a_h a1) := by
    have := h1.2.1.2.2.2.2.2.2
    rw [zIW_0 w1] at this; exact this
  have out1 : σ1.1 10 ci 12 = ctr (a_i a1) (a_h a1) := by
    have := h1.2.1.2.2.2.2.1
    rw [zIW_0 w1] at this; exact this
  obtain ⟨σ2, e2, cd2, h2⟩ := c_try (X := X) (d := d + 19) h1 w1 ct100
  have e2 : sm_callM X true (d + 20) 16 [vP (10, ci)] σ1 = rI (Int32.ofNat (a_c a1).length) σ2 := e2
  rw [PC_cd h1, rq_t, if_pos rfl, e2, bI_r, cd2, rq_t, out1]
  have zA1 : zL (aC (aH (zE a1 33 0 0 0 (-1)) (zL a1 :: a_h a1)) (a_c a1 ++ [zL a1])) = zL a1 + 1 := zL_E
  have atA1 : (a_i (aC (aH (zE a1 33 0 0 0 (-1)) (zL a1 :: a_h a1)) (a_c a1 ++ [zL a1])))[zL a1]? = some (33, 0, 0, -1, 0, gNow a1) := by
    show (a_i a1 ++ _)[(a_i a1).length]? = _
    simp
  have pA1 : a_i a1 <+: a_i (aC (aH (zE a1 33 0 0 0 (-1)) (zL a1 :: a_h a1)) (a_c a1 ++ [zL a1])) := Pre_E (a := a1)
  have cA1 : a_c (aC (aH (zE a1 33 0 0 0 (-1)) (zL a1 :: a_h a1)) (a_c a1 ++ [zL a1])) = a_c a1 ++ [zL a1] := rfl
  have iA1 : In0 tyOk (aC (aH (zE a1 33 0 0 0 (-1)) (zL a1 :: a_h a1)) (a_c a1 ++ [zL a1])) := i1
  have qA1 : a_q (aC (aH (zE a1 33 0 0 0 (-1)) (zL a1 :: a_h a1)) (a_c a1 ++ [zL a1])) = a_q a := qq1
  have rA1 : a_r (aC (aH (zE a1 33 0 0 0 (-1)) (zL a1 :: a_h a1)) (a_c a1 ++ [zL a1])) = r := rr1
  have PA1 : a_p (aC (aH (zE a1 33 0 0 0 (-1)) (zL a1 :: a_h a1)) (a_c a1 ++ [zL a1])) = a_p a1 := rfl
  generalize aC (aH (zE a1 33 0 0 0 (-1)) (zL a1 :: a_h a1)) (a_c a1 ++ [zL a1]) = A1 at *
  have SA1 : SH ci O T N A1 (sI σ2 10 ci 12 (Int32.ofNat (a_c a1).length)) := ⟨h2, iA1, by omega, by unfold tyQ; rw [qA1]; exact hq, by rw [qA1]; exact hne⟩
  have lA1 : (a_c A1).length = (a_c a1).length + 1 := by rw [cA1, List.length_append]; rfl
  refine cbVV (hB 20 A1 _ SA1 rA1 (by rw [lA1]; omega)) (fun _ a2 σ3 e3 h3 => ?_) (fun e σ F => ft_readTry_0_s8 F)
  obtain ⟨d2, i2, k2⟩ := hD A1 _ a2 (PC_len h2) iA1 e3
  obtain ⟨D1, D2, D3, D4, D5, D6, D7, D8, D9, D10, D11, D12⟩ := d2
  have l12 : zL a1 + 1 ≤ zL a2 := by have := D4.length_le; unfold zL at *; omega
  have pre12 : a_i a1 <+: a_i a2 := pA1.trans D4
  have out2 : ctr (a_i a1) (a_h a1) = ctr (a_i a2) (a_h a1) := (ctr_pre pre12 ok1.2.2).symm
  have h4 := c_tried (h' := a_h a1) h3 i2.1 (fun k hk => by have := ok1.2.2 k hk; unfold zL at *; omega)
  rw [PC_cd h3, rq_t, out2]
  have zA2 : zL (aH (zE a2 34 0 0 0 (-1)) (a_h a1)) = zL a2 + 1 := zL_E
  have wA2 : wN (aH (zE a2 34 0 0 0 (-1)) (a_h a1)) = 0 := i2.1
  have pA2 : a_i a2 <+: a_i (aH (zE a2 34 0 0 0 (-1)) (a_h a1)) := Pre_E (a := a2)
  have iA2 : In0 tyOk (aH (zE a2 34 0 0 0 (-1)) (a_h a1)) := i2
  have PA2 : a_p (aH (zE a2 34 0 0 0 (-1)) (a_h a1)) = a_p a2 := rfl
  have cA2 : a_c (aH (zE a2 34 0 0 0 (-1)) (a_h a1)) = a_c a2 := rfl
  have qA2 : a_q (aH (zE a2 34 0 0 0 (-1)) (a_h a1)) = a_q a2 := rfl
  have rA2 : a_r (aH (zE a2 34 0 0 0 (-1)) (a_h a1)) = a_r a2 := rfl
  generalize aH (zE a2 34 0 0 0 (-1)) (a_h a1) = A2 at *
  have hp2 := PC_len h3
  obtain ⟨σ4, e4, h5, -⟩ := c_em (X := X) (d := d + 19) (op := 0) (arg := 0) (ty := 0) (o := 0) (g := 0) (pl := -1) (tgt := 0) h4 wA2 (by omega) rfl (by decide) (Nat.zero_le _) rfl (by unfold cArg; rw [if_pos (Or.inl rfl)]; rfl)
  have e4 : sm_callM X true (d + 20) 13 [vP (10, ci), vI 0, vI 0, vI (-1)] (sI σ3 10 ci 12 (ctr (a_i a2) (a_h a1))) = rI (Int32.ofNat (pos vC (a_i A2) (zL A2))) σ4 := e4
  rw [if_cd h4.2.2.2.2.1, PC_cd h4, e4, bI_r]
  have zA3 : zL (zE A2 0 0 0 0 (-1)) = zL A2 + 1 := zL_E
  have pA3 : a_i A2 <+: a_i (zE A2 0 0 0 0 (-1)) := Pre_E (a := A2)
  have atA3 : (a_i (zE A2 0 0 0 0 (-1)))[zL A2]? = some (0, 0, 0, -1, 0, gNow A2) := by
    show (a_i A2 ++ _)[(a_i A2).length]? = _
    simp
  have iA3 : In0 tyOk (zE A2 0 0 0 0 (-1)) := iA2
  have PA3 : a_p (zE A2 0 0 0 0 (-1)) = a_p A2 := rfl
  have cA3 : a_c (zE A2 0 0 0 0 (-1)) = a_c A2 := rfl
  have qA3 : a_q (zE A2 0 0 0 0 (-1)) = a_q A2 := rfl
  have rA3 : a_r (zE A2 0 0 0 0 (-1)) = a_r A2 := rfl
  generalize zE A2 0 0 0 0 (-1) = A3 at *
  refine cbVV (c_expect (d := d + 18) hT h5 (by decide) (by decide)) (fun _ a3 σ5 e5 h6 => ?_) (fun e σ F => ft_readTry_0_s13 F)
  obtain ⟨-, n5, e5⟩ := zMust_inr.mp e5
  have E3 : a3 = aP A3 (a_p A3 + 1) := congrArg Prod.snd e5
  refine cbVV (c_expect (d := d + 18) hT h6 (by decide) (by decide)) (fun _ a4 σ6 e6 h7 => ?_) (fun e σ F => ft_readTry_0_s15 F)
  obtain ⟨-, n6, e6⟩ := zMust_inr.mp e6
  have E4 : a4 = aP a3 (a_p a3 + 1) := congrArg Prod.snd e6
  have x4 : a_x a4 = none := by rw [E4, E3]; exact iA3.2.1
  have w4 : wN a4 = 0 := by rw [E4, E3]; exact iA3.1
  refine cbIV (c_readNewN (d := d + 17) hT h7 x4 w4) (fun sl a5 σ7 e7 h8 => ?_) (fun e y σ F => ft_readTry_0_s17 F)
  obtain ⟨k7, f7, m7, n7, e7⟩ := zNewN_inr e7
  have E5 : a5 = aX (aP a4 (a_p a4 + 1)) (some (T.2.1 (a_p a4), 36)) := congrArg Prod.snd e7
  have S5 : sl = Int32.ofNat (a_m a4) := congrArg Prod.fst e7
  refine cbVV (c_expect (d := d + 18) hT h8 (by decide) (by decide)) (fun _ a7 σ8 e8 h9 => ?_) (fun e σ F => ft_readTry_0_s19 F)
  obtain ⟨-, n8, e8⟩ := zMust_inr.mp e8
  have E7 : a7 = aP a5 (a_p a5 + 1) := congrArg Prod.snd e8
  have I7 : a_i a7 = a_i A3 := by rw [E7, E5, E4, E3]; rfl
  have z7 : zL a7 = zL A3 := by unfold zL; rw [I7]
  have p7 : a_p a7 = a_p A3 + 4 := by rw [E7, E5, E4, E3]; rfl
  have w7 : wN a7 = 0 := by rw [E7, E5, E4, E3]; exact iA3.1
  have m7' : a_m a7 = a_m a4 := by rw [E7, E5]; rfl
  have x7 : a_x a7 = some (T.2.1 (a_p a4), 36) := by rw [E7, E5]; rfl
  have c7 : a_c a7 = a_c A3 := by rw [E7, E5, E4, E3]; rfl
  have q7 : a_q a7 = a_q A3 := by rw [E7, E5, E4, E3]; rfl
  have r7 : a_r a7 = a_r A3 := by rw [E7, E5, E4, E3]; rfl
  have K7 : KB tyOk a7 := by rw [E7, E5, E4, E3]; exact iA3.2.2
  have pre17 : a_i A1 <+: a_i a7 := by rw [I7]; exact (D4.trans pA2).trans pA3
  have at7 : (a_i a7)[zL a1]? = some (33, 0, 0, -1, 0, gNow a1) := get_pre pre17 atA1
  have lc7 : (a_c a1).length < (a_c a7).length := by
    rw [c7, cA3, cA2]; have := D11.length_le; omega
  have lc7' : (a_c a7).length ≤ 100 := by
    rw [c7, cA3, cA2]; omega
  have hp7 := PC_len h9
  obtain ⟨σ9, e9, h10⟩ := c_cat (X := X) (d := d + 19) (slot := a_m a7) h9 w7 lc7' at7 rfl lc7
  have e9 : sm_callM X true (d + 20) 17 [vP (10, ci), vI (Int32.ofNat (a_c a1).length)] σ8 = rV σ9 := e9
  rw [if_cd h9.2.2.2.2.1, PC_cd h9, e9, bV_r]
  have zB : zL (zCat (zL a1) (a_c a1).length (zL a7) (a_m a7) a7) = zL a7 := zL_mod (b := a7) rfl
  obtain ⟨σ10, e10, h11, -⟩ := c_em (X := X) (d := d + 19) (op := 2) (arg := sl) (ty := 36) (o := 2) (g := sl) (pl := -1) (tgt := 0) h10 w7 (by rw [zB]; omega) rfl (by decide) (Nat.zero_le _) rfl (cArg_n (by decide))
  have e10 : sm_callM X true (d + 20) 13 [vP (10, ci), vI 2, vI sl, vI (-1)] σ9 = _ := e10
  rw [if_cd h10.2.2.2.2.1, PC_cd h10, e10, bI_r, c_knownNow h11, bI_r]
  obtain ⟨σ11, e11, h12⟩ := c_know (X := X) (d := d + 19) (n := T.2.1 (a_p a4)) (t := 36) h11 x7 w7
  have e11 : sm_callM X true (d + 20) 76 [vP (14, 0), vI (Int32.ofNat (a_m a7))] σ10 = rV σ11 := e11
  rw [m7', ← S5] at e11
  rw [e11, bV_r]
  have iB : In0 tyOk (zKnow (T.2.1 (a_p a4)) 36 (zE (zCat (zL a1) (a_c a1).length (zL a7) (a_m a7) a7) 2 sl 0 36 (-1))) := ⟨w7, rfl, KB_know (a := zE (zCat (zL a1) (a_c a1).length (zL a7) (a_m a7) a7) 2 sl 0 36 (-1)) K7 (by show a_m a7 ≠ 24; rw [m7']; exact m7) (Or.inl rfl)⟩
  have zBB : zL (zKnow (T.2.1 (a_p a4)) 36 (zE (zCat (zL a1) (a_c a1).length (zL a7) (a_m a7) a7) 2 sl 0 36 (-1))) = zL a7 + 1 := by
    show zL (zE (zCat (zL a1) (a_c a1).length (zL a7) (a_m a7) a7) 2 sl 0 36 (-1)) = _
    rw [zL_E, zB]
  have kB : a_k a7 <+: a_k (zKnow (T.2.1 (a_p a4)) 36 (zE (zCat (zL a1) (a_c a1).length (zL a7) (a_m a7) a7) 2 sl 0 36 (-1))) := List.prefix_append _ _
  have cB : (a_c (zKnow (T.2.1 (a_p a4)) 36 (zE (zCat (zL a1) (a_c a1).length (zL a7) (a_m a7) a7) 2 sl 0 36 (-1)))).length = (a_c a7).length := by
    show ((a_c a7).set (a_c a1).length (zL a7)).length = _
    rw [List.length_set]
  have qB : a_q (zKnow (T.2.1 (a_p a4)) 36 (zE (zCat (zL a1) (a_c a1).length (zL a7) (a_m a7) a7) 2 sl 0 36 (-1))) = a_q a7 := rfl
  have rB : a_r (zKnow (T.2.1 (a_p a4)) 36 (zE (zCat (zL a1) (a_c a1).length (zL a7) (a_m a7) a7) 2 sl 0 36 (-1))) = a_r a7 := rfl
  have PB : a_p (zKnow (T.2.1 (a_p a4)) 36 (zE (zCat (zL a1) (a_c a1).length (zL a7) (a_m a7) a7) 2 sl 0 36 (-1))) = a_p a7 := rfl
  have atB : (a_i (zKnow (T.2.1 (a_p a4)) 36 (zE (zCat (zL a1) (a_c a1).length (zL a7) (a_m a7) a7) 2 sl 0 36 (-1))))[zL A2]? = some (0, 0, 0, -1, 0, gNow A2) := by
    have h0 : (a_i (zCat (zL a1) (a_c a1).length (zL a7) (a_m a7) a7))[zL A2]? = some (0, 0, 0, -1, 0, gNow A2) := by
      show ((a_i a7).modify (zL a1) _)[zL A2]? = _
      rw [List.getElem?_modify, I7, atA3]
      have : ¬ zL a1 = zL A2 := by omega
      simp [this]
    exact get_pre (Pre_E (a := zCat (zL a1) (a_c a1).length (zL a7) (a_m a7) a7)) h0
  have posB : pos vC (a_i (zKnow (T.2.1 (a_p a4)) 36 (zE (zCat (zL a1) (a_c a1).length (zL a7) (a_m a7) a7) 2 sl 0 36 (-1)))) (zL A2) = pos vC (a_i A2) (zL A2) := by
    have h0 : pos vC (a_i (zE (zCat (zL a1) (a_c a1).length (zL a7) (a_m a7) a7) 2 sl 0 36 (-1))) (zL A2) = pos vC (a_i (zCat (zL a1) (a_c a1).length (zL a7) (a_m a7) a7)) (zL A2) := pos_pre (Pre_E (a := zCat (zL a1) (a_c a1).length (zL a7) (a_m a7) a7)) (by show zL A2 ≤ zL (zCat (zL a1) (a_c a1).length (zL a7) (a_m a7) a7); omega)
    have h1 : pos vC (a_i (zCat (zL a1) (a_c a1).length (zL a7) (a_m a7) a7)) (zL A2) = pos vC (a_i a7) (zL A2) := pos_mod (fun _ => rfl)
    show pos vC (a_i (zE (zCat (zL a1) (a_c a1).length (zL a7) (a_m a7) a7) 2 sl 0 36 (-1))) (zL A2) = _
    rw [h0, h1, I7]
    exact pos_pre pA3 (Nat.le_refl _)
  have ek : a_k (zE (zCat (zL a1) (a_c a1).length (zL a7) (a_m a7) a7) 2 sl 0 36 (-1)) = a_k a7 := rfl
  rw [ek]
  generalize zKnow (T.2.1 (a_p a4)) 36 (zE (zCat (zL a1) (a_c a1).length (zL a7) (a_m a7) a7) 2 sl 0 36 (-1)) = B at *
  have qBa : a_q B = a_q a := by rw [qB, q7, qA3, qA2, D7, qA1]
  have SB : SH ci O T N B σ11 := ⟨h12, iB, by omega, by unfold tyQ; rw [qBa]; exact hq, by rw [qBa]; exact hne⟩
  have bB : 9 * (a_c B).length ≤ a_p B + 9 * (r + 1) := by rw [cB, c7, cA3, cA2]; omega
  refine cbVV (hB 20 B σ11 SB (by rw [rB, r7, rA3, rA2, D10, rA1]) bB) (fun _ a8 σ12 e12 h13 => ?_) (fun e σ F => ft_readTry_0_s29 F)
  obtain ⟨d8, i8, k8⟩ := hD B _ a8 (PC_len h12) iB e12
  obtain ⟨σ13, e13, h14⟩ := c_forget (X := X) (d := d + 18) (kn := a_k a7) h13 (by rw [k8]; exact kB) i8.1
  have e13 : sm_callM X true (d + 20) 78 [vP (14, 0), vI (Int32.ofNat (a_k a7).length)] σ12 = rV σ13 := e13
  rw [e13, bV_r]
  have S8 := SH_D SB.2.2.1 SB.2.2.2.1 SB.2.2.2.2 d8 h13 i8
  have hp8 := PC_len h13
  obtain ⟨σ14, e14, h15⟩ := c_aim (X := X) (d := d + 18) (a := aK a8 (a_k a7)) (k := zL A2) h14 i8.1 (by show zL a8 < 900; have := S8.2.2.1; omega) (get_pre d8.2.2.2.1 atB) (Or.inl rfl)
  have e14 : sm_callM X true (d + 20) 15 [vP (10, ci), vI (Int32.ofNat (pos vC (a_i a8) (zL A2)))] σ13 = rV σ14 := e14
  rw [pos_pre d8.2.2.2.1 (by show zL A2 ≤ zL B; omega), posB] at e14
  rw [if_cd h14.2.2.2.2.1, PC_cd h14, e14, bV_r]
  refine ⟨_, rfl, ?_⟩
  rw [← zA2]
  exact h15
/-- a statement has a token at least -/
theorem S_lt {y : Int32} (hT : TK T N) (hD : SubB tyOk blk) (hp : a_p a ≤ 800) (hi : In0 tyOk a) (h : zStat T blk a = .inr (y, b)) : a_p a < a_p b := by
  unfold zStat zSta at h
  have hp' : a_p (aO a 0) ≤ 800 := hp
  have hi' : In0 tyOk (aO a 0) := hi
  have cond : ∀ {p0 y1 a1}, zCond T p0 (aO a 0) = .inr (y1, a1) → a_p a < a_p a1 ∧ a_p a1 ≤ 800 ∧ In0 tyOk a1 := by
    intro p0 y1 a1 h1
    obtain ⟨d1, i1, -⟩ := D_cond hp' hi' h1
    have := d1.1
    exact ⟨by have : a_p a + 2 ≤ a_p a1 := this; omega, d1.2.1, i1⟩
  split at h
  · have := (D_var (a := aO a 0) (PT_ty hT) hp' hi' h).1.1
    exact this
  split at h
  · unfold zIf at h
    rw [pb_inr] at h
    obtain ⟨_, a1, h1, h⟩ := h
    obtain ⟨l1, l1', i1⟩ := cond h1
    rw [pb_inr] at h
    obtain ⟨_, a2, h2, h⟩ := h
    obtain ⟨d2, i2, -⟩ := hD _ _ _ l1' i1 h2
    have g2 := d2.1
    split at h
    · rw [pb_inr] at h
      obtain ⟨_, a3, h3, h⟩ := h
      rw [pb_inr] at h
      obtain ⟨_, a4, h4, h⟩ := h
      have p3 : a_p a3 = a_p a2 + 1 := zN_p h3
      have n3 := (zN_inr.mp h3).1
      have n3 : a_p a2 ≠ 800 := n3
      have i3 : In0 tyOk a3 := In0_N h3 i2
      obtain ⟨d4, -, -⟩ := hD a3 _ a4 (by have := d2.2.1; omega) i3 h4
      have g4 := d4.1
      cases h
      show a_p a < a_p a4
      omega
    · cases h
      show a_p a < a_p a2
      omega
  split at h
  · unfold zWhile at h
    rw [pb_inr] at h
    obtain ⟨_, a1, h1, h⟩ := h
    obtain ⟨l1, l1', i1⟩ := cond h1
    rw [pb_inr] at h
    obtain ⟨_, a2, h2, h⟩ := h
    obtain ⟨d2, i2, -⟩ := hD _ _ _ l1' i1 h2
    have g2 := d2.1
    cases h
    show a_p a < a_p a2
    omega
  split at h
  · unfold zTry at h
    rw [pb_inr] at h
    obtain ⟨_, a1, h1, h⟩ := h
    have p1 : a_p a1 = a_p a + 1 := zN_p h1
    have n1 : a_p a ≠ 800 := (zN_inr.mp h1).1
    have i1 : In0 tyOk a1 := In0_N h1 hi'
    rw [pb_inr] at h
    obtain ⟨_, a2, h2, h⟩ := h
    have hd2 := fun x y => hD _ _ _ x y h2
    obtain ⟨d2, i2, -⟩ := hd2 (by show a_p a1 ≤ 800; omega) i1
    have g2 : a_p a1 + 2 ≤ a_p a2 := d2.1
    have g2' := d2.2.1
    rw [pb_inr] at h
    obtain ⟨_, a3, h3, h⟩ := h
    obtain ⟨-, n3, e3⟩ := zMust_inr.mp h3
    have p3 : a_p a3 = a_p a2 + 1 := by rw [show a3 = _ from congrArg Prod.snd e3]; rfl
    have i3 : In0 tyOk a3 := by rw [show a3 = _ from congrArg Prod.snd e3]; exact i2
    have n3 : a_p a2 ≠ 800 := n3
    rw [pb_inr] at h
    obtain ⟨_, a4, h4, h⟩ := h
    obtain ⟨-, n4, e4⟩ := zMust_inr.mp h4
    have p4 : a_p a4 = a_p a3 + 1 := by rw [show a4 = _ from congrArg Prod.snd e4]; rfl
    have i4 : In0 tyOk a4 := by rw [show a4 = _ from congrArg Prod.snd e4]; exact i3
    rw [pb_inr] at h
    obtain ⟨sl, a5, h5, h⟩ := h
    obtain ⟨-, -, m5, n5, e5⟩ := zNewN_inr h5
    have E5 : a5 = aX (aP a4 (a_p a4 + 1)) (some (T.2.1 (a_p a4), 36)) := congrArg Prod.snd e5
    have p5 : a_p a5 = a_p a4 + 1 := by rw [E5]; rfl
    rw [pb_inr] at h
    obtain ⟨_, a7, h7, h⟩ := h
    obtain ⟨-, n7, e7⟩ := zMust_inr.mp h7
    have E7 : a7 = aP a5 (a_p a5 + 1) := congrArg Prod.snd e7
    have p7 : a_p a7 = a_p a5 + 1 := by rw [E7]; rfl
    have K7 : KB tyOk a7 := by rw [E7, E5]; exact i4.2.2
    have W7 : wN a7 = 0 := by rw [E7, E5]; exact i4.1
    have M7 : a_m a7 ≠ 24 := by rw [E7, E5]; exact m5
    rw [pb_inr] at h
    obtain ⟨_, a8, h8, h⟩ := h
    have hd8 := fun x y => hD _ _ _ x y h8
    have K8 : KB tyOk (zKnow (T.2.1 (a_p a4)) 36 (zE (zCat (zL a1) (a_c a1).length (zL a7) (a_m a7) a7) 2 sl 0 36 (-1))) := KB_know (a := zE (zCat (zL a1) (a_c a1).length (zL a7) (a_m a7) a7) 2 sl 0 36 (-1)) K7 M7 (Or.inl rfl)
    obtain ⟨d8, -, -⟩ := hd8 (by show a_p a7 ≤ 800; omega) ⟨W7, rfl, K8⟩
    have g8 : a_p a7 + 2 ≤ a_p a8 := d8.1
    cases h
    show a_p a < a_p a8
    omega
  have fin : ∀ {u : Int32} {a1 a2 : zA}, a_p a1 = a_p a + 1 → a_p a1 ≤ 800 → zExp T a1 = .inr (u, a2) → a_p a1 < a_p a2 := by
    intro u a1 a2 _ hp1 h1
    exact (D_Exp hp1 h1).1.2.1
  split at h
  · unfold zRet at h
    rw [pb_inr] at h
    obtain ⟨_, a1, h1, h⟩ := h
    have p1 : a_p a1 = a_p a + 1 := zN_p h1
    have n1 : a_p a ≠ 800 := (zN_inr.mp h1).1
    split at h
    · rw [it_l, pb_inr] at h
      obtain ⟨-, _, a2, h2, h⟩ := h
      have p2 : a_p a2 = a_p a1 + 1 := zN_p h2
      cases h
      show a_p a < a_p a2
      omega
    · rw [pb_inr] at h
      obtain ⟨u, a2, h2, h⟩ := h
      have l2 := fin p1 (by omega) h2
      rw [it_l, it_l, pb_inr] at h
      obtain ⟨-, -, _, a3, h3, h⟩ := h
      have p3 : a_p a3 = a_p a2 + 1 := zN_p h3
      cases h
      show a_p a < a_p a3
      omega
  split at h
  · unfold zSay at h
    rw [pb_inr] at h
    obtain ⟨_, a1, h1, h⟩ := h
    have p1 : a_p a1 = a_p a + 1 := zN_p h1
    have n1 : a_p a ≠ 800 := (zN_inr.mp h1).1
    rw [pb_inr] at h
    obtain ⟨u, a2, h2, h⟩ := h
    have l2 := fin p1 (by omega) h2
    rw [it_l, it_l, pb_inr] at h
    obtain ⟨-, -, _, a3, h3, h⟩ := h
    have p3 : a_p a3 = a_p a2 + 1 := zN_p h3
    cases h
    show a_p a < a_p a3
    omega
  split at h
  · unfold zFail at h
    rw [pb_inr] at h
    obtain ⟨_, a1, h1, h⟩ := h
    have p1 : a_p a1 = a_p a + 1 := zN_p h1
    have n1 : a_p a ≠ 800 := (zN_inr.mp h1).1
    rw [pb_inr] at h
    obtain ⟨u, a2, h2, h⟩ := h
    have l2 := fin p1 (by omega) h2
    rw [it_l, it_l, pb_inr] at h
    obtain ⟨-, -, _, a3, h3, h⟩ := h
    have p3 : a_p a3 = a_p a2 + 1 := zN_p h3
    cases h
    show a_p a < a_p a3
    omega
  · unfold zActs at h
    rw [pb_inr] at h
    obtain ⟨t1, a1, h1, h⟩ := h
    have l1 : a_p a < a_p a1 := (D_unit (a := aO a 0) (D_X 10) hp' h1).1.2.1
    have l1' : a_p a1 ≤ 800 := (D_unit (a := aO a 0) (D_X 10) hp' h1).1.2.2.1
    split at h
    · rw [it_l, it_r, pb_inr] at h
      obtain ⟨-, -, _, a2, h2, h⟩ := h
      have p2 : a_p a2 = a_p a1 + 1 := zN_p h2
      have n2 : a_p a1 ≠ 800 := (zN_inr.mp h2).1
      rw [pb_inr] at h
      obtain ⟨u, a3, h3, h⟩ := h
      have l3 := (D_Exp (by omega) h3).1.2.1
      rw [it_l, it_l, pb_inr] at h
      obtain ⟨-, -, _, a4, h4, h⟩ := h
      have p4 : a_p a4 = a_p a3 + 1 := zN_p h4
      cases h
      show a_p a < a_p a4
      omega
    · rw [it_l, pb_inr] at h
      obtain ⟨-, _, a2, h2, h⟩ := h
      have p2 : a_p a2 = a_p a1 + 1 := zN_p h2
      cases h
      show a_p a < a_p a2
      omega
theorem SCV_r {r : sm_R} {z : zR} (h : SCV ci O T N r z) : SCV ci O T N (sm_bV r sm_tw (fun s => some (some none, s))) z := by
  rcases z with e | x
  · obtain ⟨σ', rfl, F⟩ := h; exact ⟨σ', rfl, F⟩
  · obtain ⟨σ', rfl, P⟩ := h; exact ⟨σ', rfl, P⟩
/-- a statement -/
theorem c_readStat {r : Nat} (hT : TK T N) (hE : HS X d ci O T N (zX_ T 11) 0) (hE1 : HS X d ci O T N (zX_ T 10) 1) (hB : HB X d ci O T N blk r) (hD : SubB tyOk blk) (hS : SH ci O T N a σ) (hr : a_r a = r) (hr8 : r ≤ 8) (hc : 9 * (a_c a).length ≤ a_p a + 9 * r) : SCV ci O T N (sm_callM X true (d + 22) 96 [vP (15, 0), vI (Int32.ofNat r)] σ) (zStat T blk a) := by
  have hS' : SH ci O T N (aO a 0) σ := hS
  rw [f_X5_readStatement, q_X5_readStatement_0, PC_k hS.1]
  unfold zStat zSta
  show SCV ci O T N _ (if T.1 (a_p a) = 201 then _ else if T.1 (a_p a) = 202 then _ else if T.1 (a_p a) = 204 then _ else if T.1 (a_p a) = 205 then _ else if T.1 (a_p a) = 207 then _ else if T.1 (a_p a) = 208 then _ else if T.1 (a_p a) = 209 then _ else _)
  have acts := SCV_r (c_readActs (X := X) hT hE hE1 hS' rfl)
  by_cases k1 : T.1 (a_p a) = 201
  · rw [if_pos k1, if_pos k1]; exact SCV_r (c_readVar hT hE hS' k1 rfl)
  rw [if_neg k1, if_neg k1]
  by_cases k2 : T.1 (a_p a) = 202
  · rw [if_pos k2, if_pos k2]; exact SCV_r (c_readIf hT hE1 hB hD hS' k2 rfl hr hc)
  rw [if_neg k2, if_neg k2]
  by_cases k3 : T.1 (a_p a) = 203
  · rw [if_pos k3, if_neg (by rw [k3]; decide), if_neg (by rw [k3]; decide), if_neg (by rw [k3]; decide), if_neg (by rw [k3]; decide), if_neg (by rw [k3]; decide)]; exact acts
  rw [if_neg k3]
  by_cases k4 : T.1 (a_p a) = 204
  · rw [if_pos k4, if_pos k4]; exact SCV_r (c_readWhile hT hE1 hB hD hS' k4 rfl hr hc)
  rw [if_neg k4, if_neg k4]
  by_cases k5 : T.1 (a_p a) = 205
  · rw [if_pos k5, if_pos k5]; exact SCV_r (c_readTry hT hB hD hS' k5 hr hr8 hc)
  rw [if_neg k5, if_neg k5]
  by_cases k6 : T.1 (a_p a) = 206
  · rw [if_pos k6, if_neg (by rw [k6]; decide), if_neg (by rw [k6]; decide), if_neg (by rw [k6]; decide)]; exact acts
  rw [if_neg k6]
  by_cases k7 : T.1 (a_p a) = 207
  · rw [if_pos k7, if_pos k7]; exact SCV_r (c_readReturn hT hE hS' k7 rfl)
  rw [if_neg k7, if_neg k7]
  by_cases k8 : T.1 (a_p a) = 208
  · rw [if_pos k8, if_pos k8]; exact SCV_r (c_readSay hT hE hS' k8 rfl)
  rw [if_neg k8, if_neg k8]
  by_cases k9 : T.1 (a_p a) = 209
  · rw [if_pos k9, if_pos k9]; exact SCV_r (c_readFail hT hE hS' k9 rfl)
  rw [if_neg k9, if_neg k9]
  exact acts
/-- the statements of a block, and its end -/
theorem c_stats {r : Nat} {kn : List (List Int32 × Int32 × Nat)} (hT : TK T N) (hE : HS X d ci O T N (zX_ T 11) 0) (hE1 : HS X d ci O T N (zX_ T 10) 1) (hB : HB X d ci O T N blk (r + 1)) (hD : SubB tyOk blk) (hr8 : r + 1 ≤ 8) : ∀ (f i : Nat) (a : zA) (σ : sm_S), SH ci O T N a σ → a_r a = r + 1 → 9 * (a_c a).length ≤ a_p a + 9 * (r + 1) → kn <+: a_k a → i ≤ a_p a → 801 ≤ f + a_p a →
    SCV ci O T N (sm_go (sm_ZZ X) sm_PP true (sm_callM X true (d + 22)) 95 38 [vP (15, 0), vI (Int32.ofNat r), vI (Int32.ofNat kn.length), vI (Int32.ofNat i)] [] σ) (pb (zStats T blk f a) (fun _ a2 => pb (zN (aR (aK a2 kn) (a_r a2 - 1))) (fun _ a3 => .inr (0, a3))))
  | 0, i, a, σ, hS, hr, hc, hk, hi, hf => by have := PC_len hS.1; omega
  | f + 1, i, a, σ, hS, hr, hc, hk, hi, hf => by
    have h := hS.1
    have hp := PC_len h
    rw [q_X5_readBlock_38, if_neg (by rw [show (800 : Int32) = Int32.ofNat 800 from rfl, i_lt (by omega) (by omega)]; omega), if_pos h.1.2.2.2.2.2.2.2.2.2.1, PC_k h, zStats]
    by_cases k : T.1 (a_p a) = 125
    · rw [if_pos k, if_pos k, pb_r]
      have e0 : pb (zN (aR (aK a kn) (a_r a - 1))) (fun _ a3 => .inr (0, a3)) = pb (zMust T 125 a) (fun _ a3 => .inr (0, aR (aK a3 kn) (a_r a3 - 1))) := by
        unfold zMust
        rw [if_pos k]
        unfold zN
        show pb (if a_p a = 800 then _ else _) _ = _
        split <;> rfl
      rw [e0]
      refine cbVV (c_expect (d := d + 20) hT h (by decide) (by decide)) (fun _ a3 σ3 e3 h3 => ?_) (fun e σ F => ft_readBlock_38_s6 F)
      obtain ⟨-, -, e3⟩ := zMust_inr.mp e3
      have E3 : a3 = aP a (a_p a + 1) := congrArg Prod.snd e3
      obtain ⟨σ4, e4, h4⟩ := c_forget (X := X) (d := d + 20) (kn := kn) h3 (by rw [E3]; exact hk) (by rw [E3]; exact hS.2.1.1)
      have e4 : sm_callM X true (d + 22) 78 [vP (14, 0), vI (Int32.ofNat kn.length)] σ3 = rV σ4 := e4
      rw [e4, bV_r]
      exact ⟨_, rfl, h4⟩
    · rw [if_neg k, if_neg k, pb_pb, i_s]
      refine cbVV (c_readStat hT hE hE1 hB hD hS hr hr8 hc) (fun _ a1 σ1 e1 h1 => ?_) (fun e σ F => ft_readBlock_38_s10 F)
      obtain ⟨d1, i1⟩ := D_stat (PT_ty hT) hD hp hS.2.1 e1
      have S1 := SH_D hS.2.2.1 hS.2.2.2.1 hS.2.2.2.2 d1 h1 i1
      have lt1 : a_p a < a_p a1 := S_lt hT hD hp hS.2.1 e1
      rw [i_s]
      exact c_stats hT hE hE1 hB hD hr8 f (i + 1) a1 σ1 S1 (d1.2.2.2.2.2.2.2.2.2.1.trans hr) (by have := d1.2.2.2.2.2.2.2.2.2.2.2; omega) (hk.trans d1.2.2.2.2.1) (by omega) (by omega)
/-- BLOCKS, n levels -/
theorem c_B (hT : TK T N) (hE : HS X d ci O T N (zX_ T 11) 0) (hE1 : HS X d ci O T N (zX_ T 10) 1) : ∀ (n r : Nat), r + n = 9 → 1 ≤ n → HB X (d + 23 * n) ci O T N (zBlk T n) r
  | 0, r, h, h1 => by omega
  | n + 1, r, hrn, h1 => by
    intro e a σ hS hr hc
    obtain ⟨h, hi, hb, hq, hne⟩ := hS
    have e1 : d + 23 * (n + 1) + e = (d + 23 * n + e) + 23 := by omega
    rw [e1, f_X5_readBlock, q_X5_readBlock_0, PC_k h, zBlk]
    by_cases k : T.1 (a_p a) = 123 ∧ a_r a < 8
    · rw [if_pos k.1, if_pos (by rw [show (8 : Int32) = Int32.ofNat 8 from rfl, i_lt (by omega) (by omega)]; omega), if_pos k]
      have hB : HB X (d + 23 * n + e) ci O T N (zBlk T n) (r + 1) := HB_le (c_B hT hE hE1 n (r + 1) (by omega) (by omega))
      refine cbVV (c_pass (d := d + 23 * n + e + 21) (a := aR a (a_r a + 1)) hT h (by show T.1 (a_p a) ≠ 6; rw [k.1]; decide) (by show T.1 (a_p a) ≠ 7; rw [k.1]; decide)) (fun _ a1 σ1 e1 h1 => ?_) (fun e σ F => ft_readBlock_0_s2 F)
      have i1 := In0_N (a := aR a (a_r a + 1)) e1 hi
      obtain ⟨n1, e1⟩ := zN_inr.mp e1
      have E1 : a1 = aP (aR a (a_r a + 1)) (a_p a + 1) := congrArg Prod.snd e1
      have z1 : zL a1 = zL a := by rw [E1]; rfl
      have p1 : a_p a1 = a_p a + 1 := by rw [E1]; rfl
      have q1 : a_q a1 = a_q a := by rw [E1]; rfl
      have c1 : a_c a1 = a_c a := by rw [E1]; rfl
      have r1 : a_r a1 = r + 1 := by rw [E1]; show a_r a + 1 = _; rw [hr]
      rw [c_knownNow h1, bI_r]
      exact c_stats hT (HS_le (n := 23 * n + e) hE |> fun x => by rw [← Nat.add_assoc] at x; exact x) (HS_le (n := 23 * n + e) hE1 |> fun x => by rw [← Nat.add_assoc] at x; exact x) hB (D_blk (PT_ty hT) n) (by omega) 801 0 a1 σ1 ⟨h1, i1, by omega, by unfold tyQ; rw [q1]; exact hq, by rw [q1]; exact hne⟩ r1 (by rw [c1]; omega) (List.prefix_refl _) (Nat.zero_le _) (by omega)
    · rw [if_neg k]
      have bad : SCV ci O T N (sm_go (sm_ZZ X) sm_PP true (sm_callM X true (d + 23 * n + e + 22)) 95 15 [vP (15, 0), vI (Int32.ofNat r), vU, vU] [] σ) (.inl (1, a_p a)) := by
        rw [q_X5_readBlock_15, PC_pl h]
        exact SCV_f (bindV (c_refuse h (by decide)) (fun σ F => ft_readBlock_15_s2 F))
      by_cases k1 : T.1 (a_p a) = 123
      · rw [if_pos k1, if_neg (by rw [show (8 : Int32) = Int32.ofNat 8 from rfl, i_lt (by omega) (by omega)]; exact fun z => k ⟨k1, by omega⟩)]
        exact bad
      · rw [if_neg k1]
        exact bad
end
