section
/-! THE CLASS READS EXPRESSIONS -/
variable {X : Nat × (Nat → Int32)} {d : Nat} {s σ : sm_S} {ci N : Nat} {O : Nat → Nat → Nat → Int32} {T : zT} {a b : zA} {t : Int32} {sub : zA → zR}
theorem cAsk_01 (x y : Int32) : cAsk x y = 0 ∨ cAsk x y = 1 := by
  unfold cAsk
  repeat' split
  all_goals first | exact Or.inl rfl | exact Or.inr rfl
theorem cFit_01 (x y : Int32) : cFit x y = 0 ∨ cFit x y = 1 := by
  unfold cFit
  split
  · exact cRef_01 _
  · split
    · split <;> simp
    · exact cBel_01 _ _
theorem cFit_b (x y : Int32) : cFit x y = 0 ↔ decide (cFit x y = 1) = false := by
  rcases cFit_01 x y with z | z
  · rw [z]; exact ⟨fun _ => rfl, fun _ => rfl⟩
  · rw [z]; exact ⟨fun w => absurd w (by decide), fun w => absurd w (by decide)⟩
/-- as TYPE, is TYPE -/
theorem c_readAsked (hT : TK T N) (h : PC ci O T N a σ) (hk : T.1 (a_p a) = 213 ∨ T.1 (a_p a) = 212) (hb : nW a ≤ a_p a) : SCU ci O T N (sm_callM X true (d + 11) 119 [vP (15, 0), vI t] σ) (zAsk T t a) := by
  have hr := PC_reads h
  have hP := p_reads (a := a)
  have hL := (nW_reads (a := a)).1
  have hW : wN (zReads a) = 0 := wN_z (by rw [w_reads])
  have h67 : T.1 (a_p a) ≠ 6 ∧ T.1 (a_p a) ≠ 7 := by rcases hk with z | z <;> rw [z] <;> decide
  have key : ∀ x : Int32, (x = 0 ↔ ¬ T.1 (a_p a) = 213) → SCU ci O T N (sm_go (sm_ZZ X) sm_PP true (sm_callM X true (d + 10)) 119 15 [vP (15, 0), vI t, vU, vU, vU] [vI x] σ) (zAsk T t a) := by
    intro x hx
    unfold zAsk
    generalize zReads a = a0 at *
    rw [q_X5_readAsked_15]
    refine cbVU (c_pass (d := d + 9) hT hr (by rw [hP]; exact h67.1) (by rw [hP]; exact h67.2)) (fun _ a1 σ1 e1 h1 => ?_) (fun e σ F => ft_readAsked_15_s2 F)
    obtain ⟨n1, e1⟩ := zN_inr.mp e1
    have E1 : a1 = aP a0 (a_p a0 + 1) := congrArg Prod.snd e1
    have w1 : wN a1 = 0 := by rw [E1]; exact hW
    have l1 : zL a1 < 900 := by rw [E1]; show zL a0 < 900; have := h.1.1; omega
    rw [zAskT_U]
    refine cbIU (c_readTyU (d := d + 8) hT h1) (fun u a2 σ2 e2 h2 => ?_) (fun e y σ F => ft_readAsked_15_s4 F)
    have k2 := zTyU_k e2
    have hk2 : T.1 (a_p a2) ≠ 6 ∧ T.1 (a_p a2) ≠ 7 := by rcases k2 with z | z <;> (rw [show T.1 (a_p a2) = _ from z]; decide)
    have hs2 : wN a2 = 0 ∧ zL a2 < 900 := by
      obtain ⟨-, g⟩ := zTyU_inr e2
      rcases g with ⟨g, -⟩ | ⟨-, -, -, -, g⟩
      · cases g; exact ⟨w1, l1⟩
      · cases g; exact ⟨w1, l1⟩
    rw [c_mayBeAsked, bI_r]
    rcases cAsk_01 t u with z | z
    · rw [z, if_pos rfl, if_neg (by decide), PC_pl h2]
      exact SCU_f (bindV (c_refuse h2 (by decide)) (fun σ F => fg_readAsked_49 F))
    · rw [z, if_neg (by decide), if_pos rfl, q_X5_readAsked_49, PC_pl h]
      refine cbVU (c_pass (d := d + 9) hT h2 hk2.1 hk2.2) (fun _ a3 σ3 e3 h3 => ?_) (fun e σ F => ft_readAsked_49_s2 F)
      obtain ⟨n3, e3⟩ := zN_inr.mp e3
      have E3 : a3 = aP a2 (a_p a2 + 1) := congrArg Prod.snd e3
      have w3 : wN a3 = 0 := by rw [E3]; exact hs2.1
      have l3 : zL a3 < 900 := by rw [E3]; exact hs2.2
      have hc13 : ∀ g, cArg g ((13, u, 0, T.2.2.2 (a_p a), u, gNow a3) : zI) = u := fun g => (cArg_n (by decide)).symm
      have hc14 : ∀ g, cArg g ((14, u, 0, T.2.2.2 (a_p a), 36, gNow a3) : zI) = u := fun g => (cArg_n (by decide)).symm
      by_cases qa : T.1 (a_p a) = 213
      · rw [if_neg (fun z => (hx.mp z) qa), if_pos qa, q_X5_readAsked_68]
        refine emU (op := 13) (arg := u) (ty := u) (tgt := 0) h3 w3 l3 rfl (by decide) (Nat.zero_le _) rfl (hc13 _).symm (fun σ4 h4 => ?_)
        rw [if_neg (fun z => (hx.mp z) qa)]
        exact ⟨_, rfl, PC_sh h4, by rw [gI, if_pos ⟨rfl, rfl, rfl⟩]; rfl⟩
      · rw [if_pos (hx.mpr qa), if_neg qa, q_X5_readAsked_68]
        refine emU (op := 14) (arg := u) (ty := 36) (tgt := 0) h3 w3 l3 rfl (by decide) (Nat.zero_le _) rfl (hc14 _).symm (fun σ4 h4 => ?_)
        rw [if_pos (hx.mpr qa)]
        exact ⟨_, rfl, PC_sh h4, by rw [gI, if_pos ⟨rfl, rfl, rfl⟩]; rfl⟩
  rw [f_X5_readAsked, q_X5_readAsked_0, PC_k h]
  by_cases qa : T.1 (a_p a) = 213
  · rw [if_pos qa]; exact key 1 ⟨fun z => absurd z (by decide), fun z => absurd qa z⟩
  · rw [if_neg qa]; exact key 0 ⟨fun _ => qa, fun _ => rfl⟩
theorem PC_len (h : PC ci O T N a σ) : a_p a ≤ 800 := h.1.1
/-- behind a piece: bounds -/
theorem sub_b {u : Int32} {a1 a2 : zA} (hD : SubD sub) (hp : a_p a1 ≤ 800) (hb : zL a1 ≤ a_p a1) (hty : tyA a1) (e : sub a1 = .inr (u, a2)) : wN a2 = 0 ∧ zL a2 ≤ a_p a2 ∧ tyA a2 ∧ zL a2 < 900 ∧ a_o a2 = a_o a1 ∧ a_p a1 < a_p a2 ∧ a_q a2 = a_q a1 := by
  obtain ⟨⟨x1, x2, x3, x4⟩, w2⟩ := hD a1 u a2 hp e
  rw [wN_0 w2] at x4
  exact ⟨wN_z w2, by omega, tyA_eq x1 hty, by omega, x1.2.2.2.2.2.2.2.1, x2, x1.2.2.2.1⟩
/-- new -/
theorem c_readNew (hT : TK T N) (hD : SubD sub) (h : PC ci O T N a σ) (hk : T.1 (a_p a) = 210) (ho : a_o a ≤ 10) (hs : a_o a < 10 → HS X d ci O T N sub (a_o a + 1)) (hw : wN a = 0) (hs0 : a_s a = 0) (hb : zL a ≤ a_p a) (hty : tyA a) : SCU ci O T N (sm_callM X true (d + 11) 116 [vP (15, 0), vI (Int32.ofNat (a_o a))] σ) (zNew T sub a) := by
  rw [f_X5_readNew, q_X5_readNew_0, PC_pl h]
  unfold zNew
  refine cbVU (c_pass (d := d + 9) hT h (by rw [hk]; decide) (by rw [hk]; decide)) (fun _ a1 σ1 e1 h1 => ?_) (fun e σ F => ft_readNew_0_s2 F)
  obtain ⟨n1, e1⟩ := zN_inr.mp e1
  have E1 : a1 = aP a (a_p a + 1) := congrArg Prod.snd e1
  have w1 : wN a1 = 0 := by rw [E1]; exact hw
  have b1 : zL a1 ≤ a_p a1 := by rw [E1]; show zL a ≤ a_p a + 1; omega
  have t1 : tyA a1 := by rw [E1]; exact hty
  have o1 : a_o a1 = a_o a := by rw [E1]; rfl
  rw [PC_k h1]
  by_cases q : T.1 (a_p a1) = 5
  · have hv := PC_vl h1 (Or.inl q)
    rw [if_pos q, hv]
    by_cases q2 : tV T (a_p a1) = 36
    · rw [if_pos (show (T.2.2.1 (a_p a1)).toInt32 = 36 from q2), if_neg (fun z => z.2 q2), PC_pl h1]
      exact SCU_f (bindV (c_refuse h1 (by decide)) (fun σ F => fg_readNew_38 F))
    · rw [if_neg (show ¬ (T.2.2.1 (a_p a1)).toInt32 = 36 from q2), if_pos ⟨q, q2⟩, show (T.2.2.1 (a_p a1)).toInt32 = tV T (a_p a1) from rfl, q_X5_readNew_38]
      refine cbVU (c_pass (d := d + 9) hT h1 (by rw [q]; decide) (by rw [q]; decide)) (fun _ a2 σ2 e2 h2 => ?_) (fun e σ F => ft_readNew_38_s2 F)
      obtain ⟨n2, e2⟩ := zN_inr.mp e2
      have E2 : a2 = aP a1 (a_p a1 + 1) := congrArg Prod.snd e2
      have w2 : wN a2 = 0 := by rw [E2]; exact w1
      have b2 : zL a2 ≤ a_p a2 := by rw [E2]; show zL a1 ≤ a_p a1 + 1; omega
      have t2 : tyA a2 := by rw [E2]; exact t1
      have o2 : a_o a2 = a_o a := by rw [E2]; exact o1
      rw [PC_k h2]
      obtain ⟨kt, hkt, ekt⟩ := (tV_k hT q).resolve_right q2
      have row : SCU ci O T N (sm_go (sm_ZZ X) sm_PP true (sm_callM X true (d + 10)) 116 90 [vP (15, 0), vI (Int32.ofNat (a_o a)), vI (T.2.2.2 (a_p a)), vI (tV T (a_p a1)), vU] [] σ2) (pb (zOpens T 91 a2) (fun _ a3 => pb (sub a3) (fun t a4 => if T.1 (a_p a4) = 93 then (if t = 36 then pb (zN (aO a4 (a_o a4 - 1))) (fun _ a5 => .inr (18 + tV T (a_p a1), aS (zE a5 21 (tV T (a_p a1)) 0 (18 + tV T (a_p a1)) (T.2.2.2 (a_p a))) 0)) else .inl (4, a_p a4)) else .inl (1, a_p a4)))) := by
        rw [q_X5_readNew_90]
        refine cbVU (c_expectOpening (d := d + 8) hT h2 (by decide) (by decide) o2 ho) (fun _ a3 σ3 e3 h3 => ?_) (fun e σ F => ft_readNew_90_s2 F)
        obtain ⟨c3, n3, e3⟩ := zOpens_inr.mp e3
        have E3 : a3 = aP (aO a2 (a_o a2 + 1)) (a_p a2 + 1) := congrArg Prod.snd e3
        have b3 : zL a3 ≤ a_p a3 := by rw [E3]; show zL a2 ≤ a_p a2 + 1; omega
        have t3 : tyA a3 := by rw [E3]; exact t2
        have o3 : a_o a3 = a_o a + 1 := by rw [E3]; show a_o a2 + 1 = _; rw [o2]
        rw [i_s]
        refine cbIU (hs (by rw [← o2]; exact c3.2) 10 a3 σ3 h3 (by rw [E3]; exact w2) o3 b3 t3) (fun u a4 σ4 e4 h4 => ?_) (fun e y σ F => ft_readNew_90_s4 F)
        obtain ⟨w4, b4, t4, l4, o4, -, -⟩ := sub_b hD (PC_len h3) b3 t3 e4
        have fin : ∀ (y : Int32) (c : Bool), (y = 0 ↔ c = false) → (c = true ↔ u = 36) → SCU ci O T N (sm_go (sm_ZZ X) sm_PP true (sm_callM X true (d + 10)) 116 121 [vP (15, 0), vI (Int32.ofNat (a_o a)), vI (T.2.2.2 (a_p a)), vI (tV T (a_p a1)), vI u] [vI y, vI 93, vP (15, 0)] σ4) (if T.1 (a_p a4) = 93 then (if u = 36 then pb (zN (aO a4 (a_o a4 - 1))) (fun _ a5 => .inr (18 + tV T (a_p a1), aS (zE a5 21 (tV T (a_p a1)) 0 (18 + tV T (a_p a1)) (T.2.2.2 (a_p a))) 0)) else .inl (4, a_p a4)) else .inl (1, a_p a4)) := by
          intro y c hy hc
          rw [q_X5_readNew_121, if_pos rfl]
          have e0 : (if T.1 (a_p a4) = 93 then (if u = 36 then pb (zN (aO a4 (a_o a4 - 1))) (fun _ a5 => .inr (18 + tV T (a_p a1), aS (zE a5 21 (tV T (a_p a1)) 0 (18 + tV T (a_p a1)) (T.2.2.2 (a_p a))) 0)) else .inl (4, a_p a4)) else .inl (1, a_p a4) : zR) = pb (zFitT T 93 c (aO a4 (a_o a4 - 1))) (fun _ a5 => .inr (18 + tV T (a_p a1), aS (zE a5 21 (tV T (a_p a1)) 0 (18 + tV T (a_p a1)) (T.2.2.2 (a_p a))) 0)) := by
            unfold zFitT
            show _ = pb (if T.1 (a_p a4) = 93 then _ else _) _
            by_cases q : T.1 (a_p a4) = 93
            · rw [if_pos q, if_pos q]
              by_cases q2 : u = 36
              · rw [if_pos q2, if_pos (hc.mpr q2)]
              · rw [if_neg q2, if_neg (fun z => q2 (hc.mp z))]; rfl
            · rw [if_neg q, if_neg q]; rfl
          rw [e0]
          refine cbVU (c_expectFit (d := d + 8) (a := aO a4 (a_o a4 - 1)) hT h4 (by decide) (by decide) hy) (fun _ a5 σ5 e5 h5 => ?_) (fun e σ F => ft_readNew_121_s2 F)
          unfold zFitT at e5; rw [it_l, it_l] at e5
          obtain ⟨-, -, e5⟩ := e5
          obtain ⟨-, e5⟩ := zN_inr.mp e5
          have E5 : a5 = aP (aO a4 (a_o a4 - 1)) (a_p a4 + 1) := congrArg Prod.snd e5
          have w5 : wN a5 = 0 := by rw [E5]; exact w4
          have l5 : zL a5 < 900 := by rw [E5]; exact l4
          refine emU (op := 21) (arg := tV T (a_p a1)) (ty := 18 + tV T (a_p a1)) (tgt := 0) h5 w5 l5 rfl (by decide) (Nat.zero_le _) rfl (cArg_n (by decide)) (fun σ6 h6 => ?_)
          exact ⟨_, rfl, PC_sh h6, by rw [gI, if_pos ⟨rfl, rfl, rfl⟩]; rfl⟩
        by_cases q6 : u = 36
        · rw [if_pos q6]; exact fin 1 true ⟨fun z => absurd z (by decide), fun z => (by cases z)⟩ ⟨fun _ => q6, fun _ => rfl⟩
        · rw [if_neg q6]; exact fin 0 false ⟨fun _ => rfl, fun _ => rfl⟩ ⟨fun z => (by cases z), fun z => absurd z q6⟩
      by_cases q3 : T.1 (a_p a2) = 40
      · rw [if_pos q3, c_isKind, bI_r]
        by_cases q4 : kt < 13
        · have hlt : tV T (a_p a1) < 13 := by rw [ekt, show (13 : Int32) = Int32.ofNat 13 from rfl, i_lt (by omega) (by omega)]; exact q4
          have hkd : (if tV T (a_p a1) < 0 then (0 : Int32) else if 12 < tV T (a_p a1) then 0 else 1) = 1 := by
            rw [ekt, if_neg (i_nn (by omega)), if_neg (by rw [show (12 : Int32) = Int32.ofNat 12 from rfl, i_lt (by omega) (by omega)]; omega)]
          rw [hkd, if_neg (by decide), if_pos ⟨q3, hlt⟩]
          refine cbVU (c_expectOpening (d := d + 8) hT h2 (by decide) (by decide) o2 ho) (fun _ a3 σ3 e3 h3 => ?_) (fun e σ F => ft_readNew_38_s6 F)
          obtain ⟨c3, n3, e3⟩ := zOpens_inr.mp e3
          have E3 : a3 = aP (aO a2 (a_o a2 + 1)) (a_p a2 + 1) := congrArg Prod.snd e3
          have w3 : wN a3 = 0 := by rw [E3]; exact w2
          have l3 : zL a3 < 900 := by rw [E3]; show zL a2 < 900; have := PC_len h2; omega
          have s3 : a_s a3 = 0 := by rw [E3, E2, E1]; exact hs0
          have e0 : (if T.1 (a_p a3) = 41 then pb (zN (aO a3 (a_o a3 - 1))) (fun _ a4 => .inr (tV T (a_p a1), aS (zE a4 20 (tV T (a_p a1)) 0 (tV T (a_p a1)) (T.2.2.2 (a_p a))) 0)) else .inl (1, a_p a3) : zR) = pb (zMust T 41 (aO a3 (a_o a3 - 1))) (fun _ a4 => .inr (tV T (a_p a1), aS (zE a4 20 (tV T (a_p a1)) 0 (tV T (a_p a1)) (T.2.2.2 (a_p a))) 0)) := by
            unfold zMust
            show _ = pb (if T.1 (a_p a3) = 41 then _ else _) _
            by_cases q : T.1 (a_p a3) = 41
            · rw [if_pos q, if_pos q]
            · rw [if_neg q, if_neg q]; rfl
          rw [e0]
          refine cbVU (c_expect (d := d + 8) (a := aO a3 (a_o a3 - 1)) hT h3 (by decide) (by decide)) (fun _ a4 σ4 e4 h4 => ?_) (fun e σ F => ft_readNew_38_s8 F)
          obtain ⟨-, -, e4⟩ := zMust_inr.mp e4
          have E4 : a4 = aP (aO a3 (a_o a3 - 1)) (a_p a3 + 1) := congrArg Prod.snd e4
          have w4 : wN a4 = 0 := by rw [E4]; exact w3
          have l4 : zL a4 < 900 := by rw [E4]; exact l3
          refine emU (op := 20) (arg := tV T (a_p a1)) (ty := tV T (a_p a1)) (tgt := 0) h4 w4 l4 rfl (by decide) (Nat.zero_le _) rfl (cArg_n (by decide)) (fun σ6 h6 => ?_)
          exact ⟨_, rfl, PC_sh h6, by rw [gI, if_pos ⟨rfl, rfl, rfl⟩]; rfl⟩
        · have hlt : ¬ tV T (a_p a1) < 13 := by rw [ekt, show (13 : Int32) = Int32.ofNat 13 from rfl, i_lt (by omega) (by omega)]; exact q4
          have hkd : (if tV T (a_p a1) < 0 then (0 : Int32) else if 12 < tV T (a_p a1) then 0 else 1) = 0 := by
            rw [ekt, if_neg (i_nn (by omega)), if_pos (by rw [show (12 : Int32) = Int32.ofNat 12 from rfl, i_lt (by omega) (by omega)]; omega)]
          rw [hkd, if_pos rfl, if_neg (fun z => hlt z.2)]
          exact row
      · rw [if_neg q3, if_neg (fun z => q3 z.1)]
        exact row
  · rw [if_neg q, if_neg (fun z => q z.1), PC_pl h1]
    exact SCU_f (bindV (c_refuse h1 (by decide)) (fun σ F => fg_readNew_38 F))
/-- one argument; what is judged there -/
def zArg1 (T : zT) (sub : zA → zR) (ps : List Int32) (i : Nat) (a : zA) : zR := pb (sub a) (fun t a1 => if T.1 (a_p a1) = 44 ∨ T.1 (a_p a1) = 41 then (if cFit t (ps.getD i 38) = 1 then .inr (0, a1) else .inl (4, a_p a1)) else .inr (0, a1))
theorem c_readArg {q x : Int32} {i : Nat} {o : Nat} (hT : TK T N) (hD : SubD sub) (h : PC ci O T N a σ) (hw : wN a = 0) (ho : a_o a = o) (hs : HS X d ci O T N sub o) (hb : zL a ≤ a_p a) (hty : tyA a) (hx : cIx (a_q a) q x) (hi : i < 2 ^ 31) : SCV ci O T N (sm_callM X true (d + 11) 115 [vP (15, 0), vI x, vI (Int32.ofNat i), vI (Int32.ofNat o)] σ) (zArg1 T sub (qPar (a_q a) q) i a) := by
  rw [f_X5_readArgument, q_X5_readArgument_0]
  unfold zArg1
  refine cbIV (hs 10 a σ h hw ho hb hty) (fun u a1 σ1 e1 h1 => ?_) (fun e y σ F => ft_readArgument_0_s2 F)
  obtain ⟨w1, b1, t1, l1, o1, -, q1⟩ := sub_b hD (PC_len h) hb hty e1
  rw [PC_k h1]
  have jd : SCV ci O T N (sm_go (sm_ZZ X) sm_PP true (sm_callM X true (d + 10)) 115 30 [vP (15, 0), vI x, vI (Int32.ofNat i), vI (Int32.ofNat o), vI u, vU] [vI 1] σ1) (if cFit u ((qPar (a_q a) q).getD i 38) = 1 then .inr (0, a1) else .inl (4, a_p a1)) := by
    rw [q_X5_readArgument_30, if_neg (by decide), if_cd h1.2.2.2.2.1, PC_cd h1, c_par (a := a1) (q := q) h1 (by rw [q1]; exact hx) hi, bI_r, c_fits, bI_r, q1]
    rcases cFit_01 u ((qPar (a_q a) q).getD i 38) with z | z
    · rw [z, if_pos rfl, if_neg (by decide), PC_pl h1]
      exact SCV_f (bindV (c_refuse h1 (by decide)) (fun σ F => fv_ret F))
    · rw [z, if_neg (by decide), if_pos rfl]
      exact ⟨_, rfl, h1⟩
  by_cases k1 : T.1 (a_p a1) = 44
  · rw [if_pos k1, if_pos (Or.inl k1)]; exact jd
  · rw [if_neg k1]
    by_cases k2 : T.1 (a_p a1) = 41
    · rw [if_pos k2, if_pos (Or.inr k2)]; exact jd
    · rw [if_neg k2, if_neg (fun z => z.elim k1 k2), q_X5_readArgument_30, if_pos rfl]
      exact ⟨_, rfl, h1⟩
end
