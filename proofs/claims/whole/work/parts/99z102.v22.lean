section
variable {X : Nat × (Nat → Int32)} {d : Nat} {s σ : sm_S} {ci N : Nat} {O : Nat → Nat → Nat → Int32} {T : zT} {a b : zA} {t : Int32}
theorem c_readPNm (hT : TK T N) (h : PC ci O T N a σ) (hw : wN a = 0) : SCV ci O T N (sm_callM X true (d + 8) 89 [vP (15, 0)] σ) (zPNm T a) := by
  have h12 := h.2.2.1.2.1
  rw [f_X5_readProcName, q_X5_readProcName_0, if_cd h.2.2.2.2.1, PC_cd h, c_own (d := d + 6) h, bI_r, PC_k h]
  unfold zPNm
  by_cases k : T.1 (a_p a) = 3
  · have hn := hT.2.2.2.1 _ k
    rw [if_pos k, if_pos k, PC_nm h k, c_findProc (d := d + 1) hn h, bI_r]
    rcases pFind_c (n := T.2.1 (a_p a)) h12 with ⟨f1, f2⟩ | ⟨f1, f2, -⟩
    · rw [f2, if_pos rfl, if_pos f1, if_neg (i_nn (by omega))]
      by_cases q : (a_q a).length = 12
      · rw [if_neg (by rw [show (12 : Int32) = Int32.ofNat 12 from rfl, i_lt (by omega) (by omega)]; omega), if_pos q, PC_pl h]
        exact SCV_f (bindV (c_refuse h (by decide)) (fun σ F => fv_ret F))
      · rw [if_pos (by rw [show (12 : Int32) = Int32.ofNat 12 from rfl, i_lt (by omega) (by omega)]; omega), if_neg q, ix_nat (by omega) (by decide), PC_nm h k]
        obtain ⟨σ2, e2, h2⟩ := c_addProc (X := X) (d := d + 6) h hn (by omega) hw
        have cd : (sL σ 50 0 (a_q a).length (pk7 (T.2.1 (a_p a)) 0)).2.2.1 15 0 3 = (10, ci) := by
          show σ.2.2.1 15 0 3 = (10, ci)
          exact PC_cd h
        rw [cd, if_pos rfl]
        have e2 : sm_callM X true (d + 7) 5 [vP (10, ci)] (sL σ 50 0 (a_q a).length (pk7 (T.2.1 (a_p a)) 0)) = _ := e2
        rw [e2, bI_r]
        refine cbVV (c_pass (d := d + 6) (a := aQ a (a_q a ++ [(T.2.1 (a_p a), 38, [], zL a)])) hT h2 (by show T.1 (a_p a) ≠ 6; rw [k]; decide) (by show T.1 (a_p a) ≠ 7; rw [k]; decide)) (fun _ a2 σ3 e3 h3 => ⟨_, rfl, h3⟩) (fun e σ F => fv_ret F)
    · rw [if_neg f2, if_neg f1, PC_pl h]
      exact SCV_f (bindV (c_refuse h (by decide)) (fun σ F => fv_ret F))
  · rw [if_neg k, if_neg k, PC_pl h]
    exact SCV_f (bindV (c_refuse h (by decide)) (fun σ F => fv_ret F))
/-- one parameter -/
theorem c_readPar1 (hT : TK T N) (h : PC ci O T N a σ) (hi : HI a) : SCV ci O T N (sm_callM X true (d + 5) 91 [vP (15, 0)] σ) (zPar1 T a) := by
  rw [f_X5_readParameter, q_X5_readParameter_0]
  unfold zPar1
  refine cbIV (c_readType (d := d + 1) hT h) (fun u a1 σ1 e1 h1 => ?_) (fun e y σ F => ft_readParameter_0_s2 F)
  obtain ⟨d1, p1, E1⟩ := D_ty (PC_len h) e1
  have hi1 : HI a1 := by rw [E1]; exact HI_P hi (by have := d1.1; rw [E1] at this; have : a_p a + 1 ≤ p1 := this; omega)
  obtain ⟨g1, g2, g3, g4, g5, g6, g7, g8, g9, g10⟩ := hi1
  have h12 := h1.2.2.1.2.1
  obtain ⟨e, he⟩ := last_some g3
  have hl : 0 < (a_q a1).length := List.length_pos_iff.mpr g3
  have np := nPar_e he
  have qp : (qPar (a_q a1) (Int32.ofNat ((a_q a1).length - 1))).length = nPar a1 := by
    unfold qPar
    rw [if_pos (by rw [show (12 : Int32) = Int32.ofNat 12 from rfl, i_lt (by omega) (by omega)]; omega), i_tn (by omega), he, np]; rfl
  have hcnt := c_parCount (X := X) (d := d + 2) h1 (cIx_last g3)
  rw [qp] at hcnt
  have hcnt : sm_callM X true (d + 4) 8 [vP (10, ci), vI (Int32.ofNat (4 + (a_q a1).length))] σ1 = rI (Int32.ofNat (nPar a1)) σ1 := hcnt
  rw [if_cd h1.2.2.2.2.1, PC_cd h1, h1.2.2.2.2.2 g3, hcnt, bI_r]
  have main : ∀ (x : Int32) (c : Bool), (x = 0 ↔ c = false) → (c = true ↔ nPar a1 = 4) → SCV ci O T N (sm_go (sm_ZZ X) sm_PP true (sm_callM X true (d + 4)) 91 25 [vP (15, 0), vI u, vU, vU] [vI x] σ1) (if T.1 (a_p a1) = 3 then (match kFind (T.2.1 (a_p a1)) (a_k a1) with
      | some _ => .inl (3, a_p a1)
      | none => if (((a_q a1).getLast?.map (fun q => q.2.2.1.length)).getD 0) = 4 then .inl (5, a_p a1) else
        pb (zN (zKnow (T.2.1 (a_p a1)) u (qLast a1 (fun q => (q.1, q.2.1, q.2.2.1 ++ [u], q.2.2.2))))) (fun _ a2 => .inr (0, a2)))
    else .inl (1, a_p a1)) := by
    intro x c hx hc
    have e0 : (if T.1 (a_p a1) = 3 then (match kFind (T.2.1 (a_p a1)) (a_k a1) with
      | some _ => .inl (3, a_p a1)
      | none => if (((a_q a1).getLast?.map (fun q => q.2.2.1.length)).getD 0) = 4 then .inl (5, a_p a1) else
        pb (zN (zKnow (T.2.1 (a_p a1)) u (qLast a1 (fun q => (q.1, q.2.1, q.2.2.1 ++ [u], q.2.2.2))))) (fun _ a2 => .inr (0, a2)))
      else .inl (1, a_p a1) : zR) = pb (zNewX T c u a1) (fun _ a2 => .inr (0, qLast (zKnow (T.2.1 (a_p a1)) u a2) (fun q => (q.1, q.2.1, q.2.2.1 ++ [u], q.2.2.2)))) := by
      unfold zNewX
      by_cases k : T.1 (a_p a1) = 3
      · rw [if_pos k, if_pos k]
        cases kFind (T.2.1 (a_p a1)) (a_k a1) with
        | some e => rfl
        | none =>
          show (if nPar a1 = 4 then _ else _) = pb (if c = true ∨ a_m a1 = 24 then _ else _) _
          by_cases q : nPar a1 = 4
          · rw [if_pos q, if_pos (Or.inl (hc.mpr q))]; rfl
          · rw [if_neg q, if_neg (fun z => z.elim (fun w => q (hc.mp w)) (fun w => by omega)), pb_pb]
            unfold zN
            show pb (if a_p a1 = 800 then _ else _) _ = _
            split <;> rfl
      · rw [if_neg k, if_neg k]; rfl
    rw [e0, q_X5_readParameter_25]
    refine cbIV (c_readNewX (d := d + 1) hT h1 g1.2.1 g1.1 hx) (fun sl a2 σ2 e2 h2 => ?_) (fun e y σ F => ft_readParameter_25_s2 F)
    have E2 : sl = Int32.ofNat (a_m a1) ∧ a2 = aX (aP a1 (a_p a1 + 1)) (some (T.2.1 (a_p a1), u)) ∧ nPar a1 ≠ 4 := by
      unfold zNewX at e2
      rw [it_l] at e2
      obtain ⟨k1, e2⟩ := e2
      cases hk : kFind (T.2.1 (a_p a1)) (a_k a1) with
      | some e => rw [hk] at e2; cases e2
      | none =>
        rw [hk] at e2
        have e2 : (if c = true ∨ a_m a1 = 24 then .inl (5, a_p a1) else pb (zN a1) (fun _ a2 => .inr (Int32.ofNat (a_m a1), aX a2 (some (T.2.1 (a_p a1), u)))) : zR) = .inr (sl, a2) := e2
        rw [it_r, pb_inr] at e2
        obtain ⟨n4, _, a3, h3, h4⟩ := e2
        obtain ⟨n3, e3⟩ := zN_inr.mp h3
        cases e3
        cases h4
        exact ⟨rfl, rfl, fun z => n4 (Or.inl (hc.mpr z))⟩
    obtain ⟨S2, E2, N4⟩ := E2
    have w2 : wN a2 = 0 := by rw [E2]; exact g1.1
    have x2 : a_x a2 = some (T.2.1 (a_p a1), u) := by rw [E2]; rfl
    have m2 : a_m a2 = a_m a1 := by rw [E2]; rfl
    have q2 : a_q a2 = a_q a1 := by rw [E2]; rfl
    obtain ⟨σ3, e3, h3⟩ := c_know (X := X) (d := d + 3) h2 x2 w2
    rw [m2, ← S2] at e3
    have e3 : sm_callM X true (d + 4) 76 [vP (14, 0), vI sl] σ2 = rV σ3 := e3
    rw [e3, bV_r]
    have q3 : a_q (zKnow (T.2.1 (a_p a1)) u a2) = a_q a1 := q2
    have he3 : (a_q (zKnow (T.2.1 (a_p a1)) u a2))[(a_q (zKnow (T.2.1 (a_p a1)) u a2)).length - 1]? = some e := by rw [q3]; exact he
    obtain ⟨σ4, e4, h4⟩ := c_addPar (X := X) (d := d + 2) (t := u) h3 he3 (by omega) w2
    rw [q3] at e4
    have e4 : sm_callM X true (d + 4) 6 [vP (10, ci), vI (Int32.ofNat (4 + (a_q a1).length)), vI u] σ3 = rV σ4 := e4
    have hp3 : σ3.1 15 0 4 = Int32.ofNat (4 + (a_q a1).length) := by
      have := h3.2.2.2.2.2 (by rw [q3]; exact g3)
      rw [q3] at this; exact this
    rw [if_cd h3.2.2.2.2.1, PC_cd h3, hp3, e4, bV_r]
    exact ⟨_, rfl, h4⟩
  by_cases q : nPar a1 = 4
  · rw [if_neg (by rw [show (4 : Int32) = Int32.ofNat 4 from rfl, i_lt (by omega) (by omega)]; omega)]
    exact main 1 true ⟨fun z => absurd z (by decide), fun z => (by cases z)⟩ ⟨fun _ => q, fun _ => rfl⟩
  · rw [if_pos (by rw [show (4 : Int32) = Int32.ofNat 4 from rfl, i_lt (by omega) (by omega)]; omega)]
    exact main 0 false ⟨fun _ => rfl, fun _ => rfl⟩ ⟨fun z => (by cases z), fun z => absurd z q⟩
/-- ) and what the proc gives -/
theorem c_head69 {d1 : sm_V} (hT : TK T N) (h : PC ci O T N a σ) (hi : HI a) : SCV ci O T N (sm_go (sm_ZZ X) sm_PP true (sm_callM X true (d + 8)) 88 69 [vP (15, 0), d1] [] σ) (pb (zMust T 41 a) (fun _ a5 => zGiv T a5)) := by
  rw [q_X5_readHead_69]
  refine cbVV (c_expect (d := d + 6) hT h (by decide) (by decide)) (fun _ a5 σ5 e5 h5 => ?_) (fun e σ F => ft_readHead_69_s2 F)
  obtain ⟨-, n5, e5⟩ := zMust_inr.mp e5
  have E5 : a5 = aP a (a_p a + 1) := congrArg Prod.snd e5
  have i5 : HI a5 := by rw [E5]; exact HI_P hi (by omega)
  rw [PC_k h5]
  unfold zGiv
  by_cases k : T.1 (a_p a5) = 58
  · rw [if_pos k, if_pos k]
    refine cbVV (c_pass (d := d + 7) hT h5 (by rw [k]; decide) (by rw [k]; decide)) (fun _ a6 σ6 e6 h6 => ?_) (fun e σ F => ft_readHead_69_s4 F)
    obtain ⟨n6, e6⟩ := zN_inr.mp e6
    have E6 : a6 = aP a5 (a_p a5 + 1) := congrArg Prod.snd e6
    have q6 : a_q a6 = a_q a5 := by rw [E6]; rfl
    refine cbIV (c_readType (d := d + 5) hT h6) (fun u a7 σ7 e7 h7 => ?_) (fun e y σ F => ft_readHead_69_s6 (PC_cd h6) F)
    obtain ⟨d7, p7, E7⟩ := D_ty (PC_len h6) e7
    have q7 : a_q a7 = a_q a5 := by rw [E7]; exact q6
    have w7 : wN a7 = 0 := by rw [E7, E6]; exact i5.1.1
    have ne6 : a_q a6 ≠ [] := by rw [q6]; exact i5.2.2.1
    obtain ⟨σ8, e8, h8⟩ := c_setGiven (X := X) (d := d + 6) (t := u) h7 (by rw [q7]; exact i5.2.2.1) w7
    rw [q7] at e8
    have e8 : sm_callM X true (d + 8) 7 [vP (10, ci), vI (Int32.ofNat (4 + (a_q a5).length)), vI u] σ7 = rV σ8 := e8
    have hp6 : σ6.1 15 0 4 = Int32.ofNat (4 + (a_q a5).length) := by
      have := h6.2.2.2.2.2 ne6
      rw [q6] at this; exact this
    rw [PC_cd h6, if_pos rfl, hp6, e8, bV_r]
    exact ⟨_, rfl, h8⟩
  · rw [if_neg k, if_neg k]
    exact ⟨_, rfl, h5⟩
theorem c_pars (hT : TK T N) : ∀ (f i : Nat) (a : zA) (σ : sm_S), PC ci O T N a σ → HI a → i ≤ a_p a → 801 ≤ f + a_p a →
    SCV ci O T N (sm_go (sm_ZZ X) sm_PP true (sm_callM X true (d + 8)) 88 39 [vP (15, 0), vI (Int32.ofNat i)] [] σ) (pb (if T.1 (a_p a) = 44 then pb (zN a) (fun _ a3 => zPars T f a3) else .inr (0, a)) (fun _ a4 => pb (zMust T 41 a4) (fun _ a5 => zGiv T a5)))
  | f, i, a, σ, h, hi, hip, hf => by
    have hp := PC_len h
    rw [q_X5_readHead_39, if_neg (by rw [show (800 : Int32) = Int32.ofNat 800 from rfl, i_lt (by omega) (by omega)]; omega), PC_k h]
    by_cases k : T.1 (a_p a) = 44
    · rw [if_pos k, if_pos k, pb_pb]
      refine cbVV (c_pass (d := d + 7) hT h (by rw [k]; decide) (by rw [k]; decide)) (fun _ a1 σ1 e1 h1 => ?_) (fun e σ F => ft_readHead_39_s2 F)
      obtain ⟨n1, e1⟩ := zN_inr.mp e1
      have E1 : a1 = aP a (a_p a + 1) := congrArg Prod.snd e1
      have i1 : HI a1 := by rw [E1]; exact HI_P hi (by omega)
      have p1 : a_p a1 = a_p a + 1 := by rw [E1]; rfl
      obtain ⟨f, rfl⟩ : ∃ g, f = g + 1 := ⟨f - 1, by have := PC_len h1; omega⟩
      rw [zPars, pb_pb]
      refine cbVV (c_readPar1 (d := d + 3) hT h1 i1) (fun _ a2 σ2 e2 h2 => ?_) (fun e σ F => ft_readHead_39_s4 F)
      obtain ⟨i2, l2, -⟩ := Par1_H hT i1 (PC_len h1) e2
      rw [i_s]
      exact c_pars hT f (i + 1) a2 σ2 h2 i2 (by omega) (by omega)
    · rw [if_neg k, if_neg k, pb_r]
      exact c_head69 hT h hi
  termination_by f => f
theorem c_readHead (hT : TK T N) (h : PC ci O T N a σ) (hi : TI a) : SCV ci O T N (sm_callM X true (d + 9) 88 [vP (15, 0)] σ) (zHead T a) := by
  rw [f_X5_readHead, q_X5_readHead_0]
  unfold zHead
  refine cbVV (c_expect (d := d + 6) hT h (by decide) (by decide)) (fun _ a1 σ1 e1 h1 => ?_) (fun e σ F => ft_readHead_0_s2 F)
  obtain ⟨-, n1, e1⟩ := zMust_inr.mp e1
  have E1 : a1 = aP a (a_p a + 1) := congrArg Prod.snd e1
  have hi1 : TI a1 := by
    rw [E1]
    obtain ⟨g1, g2, g3, g4, g5, g6⟩ := hi
    exact ⟨g1, by show zL a ≤ a_p a + 1; omega, g3, g4, g5, by show 9 * (a_c a).length ≤ a_p a + 1; omega⟩
  have b1 : zL a1 + 1 ≤ a_p a1 ∧ 9 * (a_c a1).length + 1 ≤ a_p a1 := by
    rw [E1]
    exact ⟨by show zL a + 1 ≤ a_p a + 1; have := hi.2.1; omega, by show 9 * (a_c a).length + 1 ≤ a_p a + 1; have := hi.2.2.2.2.2; omega⟩
  refine cbVV (c_readPNm (d := d) hT h1 hi1.1.1) (fun _ a2 σ2 e2 h2 => ?_) (fun e σ F => ft_readHead_0_s4 F)
  obtain ⟨i2, l2, l2', w2, x2⟩ := PNm_H hi1 b1 (PC_len h1) e2
  obtain ⟨σ3, e3, h3⟩ := c_nclear (X := X) (d := d + 7) h2 x2 w2
  have e3 : sm_callM X true (d + 8) 73 [vP (14, 0)] σ2 = rV σ3 := e3
  rw [e3, bV_r]
  refine cbVV (c_expect (d := d + 6) (a := aR (aM (aK a2 []) 0) 0) hT h3 (by decide) (by decide)) (fun _ a3 σ4 e4 h4 => ?_) (fun e σ F => ft_readHead_0_s8 F)
  obtain ⟨-, n4, e4⟩ := zMust_inr.mp e4
  have E4 : a3 = aP (aR (aM (aK a2 []) 0) 0) (a_p a2 + 1) := congrArg Prod.snd e4
  have i3 : HI a3 := by rw [E4]; exact HI_P i2 (by show a_p a2 ≤ a_p a2 + 1; omega)
  rw [PC_k h4]
  by_cases k : T.1 (a_p a3) = 41
  · rw [if_pos k, if_pos k, pb_r]
    exact c_head69 hT h4 i3
  · rw [if_neg k, if_neg k, zPars, pb_pb]
    refine cbVV (c_readPar1 (d := d + 3) hT h4 i3) (fun _ a4 σ5 e5 h5 => ?_) (fun e σ F => ft_readHead_0_s10 F)
    obtain ⟨i4, l4, -⟩ := Par1_H hT i3 (PC_len h4) e5
    exact c_pars hT 800 0 a4 σ5 h5 i4 (Nat.zero_le _) (by omega)
/-- the text, proc by proc -/
theorem c_text (hT : TK T N) : ∀ (f i : Nat) (a : zA) (σ : sm_S) (v1 : sm_V), PC ci O T N a σ → TI a → i ≤ a_p a → 801 ≤ f + a_p a →
    SCV ci O T N (sm_go (sm_ZZ X) sm_PP true (sm_callM X true (d + 400)) 82 65 [vP (15, 0), v1, vI (Int32.ofNat i)] [] σ) (zText T f a)
  | 0, i, a, σ, v1, h, hi, hip, hf => by have := PC_len h; omega
  | f + 1, i, a, σ, v1, h, hi, hip, hf => by
    have hp := PC_len h
    rw [q_X5_read_65, zText]
    unfold zProc
    rw [pb_pb]
    refine cbVV (c_readHead (d := d + 391) hT h hi) (fun _ a1 σ1 e1 h1 => ?_) (fun e σ F => ft_read_65_s2 F)
    obtain ⟨i1, l1, l1'⟩ := Head_H hT hi hp e1
    obtain ⟨g1, g2, g3, g4, g5, g6, g7, g8, g9, g10⟩ := i1
    rw [pb_pb]
    have hE : HS X (d + 187) ci O T N (zX_ T 11) 0 := c_X hT 11 0 (by omega) (by omega)
    have hE1 : HS X (d + 187) ci O T N (zX_ T 10) 1 := HS_le (n := 17) (c_X (d := d) hT 10 1 (by omega) (by omega))
    have hB := c_B hT hE hE1 9 0 (by omega) (by omega)
    have S1 : SH ci O T N (aB a1 (a_b a1 + 1)) σ1 := ⟨h1, g1, by show zL a1 ≤ a_p a1; omega, g5, g3⟩
    have hB1 := hB 6 (aB a1 (a_b a1 + 1)) σ1 S1 g10 (by show 9 * (a_c a1).length ≤ a_p a1 + 9 * (0 + 1); omega)
    have hB1 : SCV ci O T N (sm_callM X true (d + 400) 95 [vP (15, 0), vI 0] σ1) (zBlk T 9 (aB a1 (a_b a1 + 1))) := hB1
    refine cbVV hB1 (fun _ a2 σ2 e2 h2 => ?_) (fun e σ F => ft_read_65_s4 F)
    obtain ⟨d2, i2, k2⟩ := D_blk (PT_ty hT) 9 _ _ _ (show a_p (aB a1 (a_b a1 + 1)) ≤ 800 from l1') g1 e2
    have eP : zProc T a = .inr (0, zE a2 3 0 0 0 (-1)) := by unfold zProc; rw [e1, pb_r, e2, pb_r]
    obtain ⟨i3, l3, l3'⟩ := Proc_T hT hi hp eP
    have D1 : a_p a1 + 2 ≤ a_p a2 := d2.1
    have D3 : zL a2 + a_p a1 + 2 ≤ zL a1 + a_p a2 := d2.2.2.1
    rw [pb_r]
    refine emV (d := d + 399) (op := 3) (arg := 0) (ty := 0) (tgt := 0) h2 i2.1 (by have := PC_len h2; omega) rfl (by decide) (Nat.zero_le _) rfl (cArg_n (by decide)) (fun σ3 h3 => ?_)
    have l3 : a_p a < a_p a2 := l3
    have hpa : a_p (zE a2 3 0 0 0 (-1)) = a_p a2 := rfl
    rw [i_s, q_X5_read_38, if_neg (by rw [show (800 : Int32) = Int32.ofNat 800 from rfl, i_lt (by omega) (by omega)]; have := PC_len h2; omega), if_pos h3.1.2.2.2.2.2.2.2.2.2.1, if_neg (by rw [show (0 : Int32) = Int32.ofNat 0 from rfl, i_eq (by omega) (by omega)]; omega), PC_k h3]
    by_cases k : T.1 (a_p (zE a2 3 0 0 0 (-1))) = 6
    · rw [if_pos k, if_pos k]
      exact ⟨_, rfl, h3⟩
    · rw [if_neg k, if_neg k]
      exact c_text hT f (i + 1) _ σ3 _ h3 i3 (by rw [hpa]; omega) (by rw [hpa]; omega)
end
