section
variable {X : Nat × (Nat → Int32)} {d : Nat} {s σ : sm_S} {ci N : Nat} {O : Nat → Nat → Nat → Int32} {T : zT} {a b : zA} {t : Int32} {blk : zA → zR}
theorem okL_E {a b : zA} (h : PrE a b) (hc : a_c b = a_c a) (k : okL (a_i a) (a_c a) (a_h a)) : okL (a_i b) (a_c b) (a_h b) := by
  obtain ⟨⟨l, h1, h2⟩, h3⟩ := h
  obtain ⟨k1, k2, k3⟩ := k
  have hl : (a_i a).length ≤ (a_i b).length := by rw [h1, List.length_append]; omega
  refine ⟨fun e he => ?_, fun t ht => ?_, fun n hn => ?_⟩
  · rw [h1] at he
    rcases List.mem_append.mp he with z | z
    · obtain ⟨o1, o2⟩ := k1 e z
      exact ⟨by omega, fun n hn => by have := o2 n hn; omega⟩
    · obtain ⟨o1, o2⟩ := h2 e z
      refine ⟨by omega, fun n hn => ?_⟩
      have hn : n ∈ a_h a := by rw [← o2]; exact hn
      have := k3 n hn; omega
  · rw [hc] at ht; have := k2 t ht; omega
  · rw [h3] at hn; have := k3 n hn; omega
theorem reck (x : Int32) : sm_callM X true (d + 1) 148 [vI x] σ = rI (if x = 2 ∨ x = 3 ∨ x = 4 then 1 else 0) σ := by
  rw [f_X9_isReckoned, q_X9_isReckoned_0]
  by_cases h2 : x = 2
  · rw [if_pos h2, if_pos (Or.inl h2)]
  rw [if_neg h2]
  by_cases h3 : x = 3
  · rw [if_pos h3, if_pos (Or.inr (Or.inl h3))]
  rw [if_neg h3]
  by_cases h4 : x = 4
  · rw [if_pos h4, if_pos (Or.inr (Or.inr h4))]
  rw [if_neg h4, if_neg (fun z => z.elim h2 (fun z => z.elim h3 h4))]
theorem csh_d : ∀ n, n ≤ 4 → ((csh n = 1 ↔ n = 4) ∧ (csh n = 4 ↔ n = 0) ∧ (csh n = 3 ↔ n = 3) ∧ (csh n = 0 ↔ n = 1)) := by decide
/-- PLACE = E ;  CALL ; -/
theorem c_readActs (hT : TK T N) (hE : HS X d ci O T N (zX_ T 11) 0) (hE1 : HS X d ci O T N (zX_ T 10) 1) (hS : SH ci O T N a σ) (ho : a_o a = 0) : SCV ci O T N (sm_callM X true (d + 21) 98 [vP (15, 0)] σ) (zActs T a) := by
  obtain ⟨h, hi, hb, hq, hne⟩ := hS
  have hty := tyA_of hi hq
  have hw := hi.1
  have okA : okL (a_i a) (a_c a) (a_h a) := by
    have := h.2.1.2.2.2.2.2.2
    rw [zIW_0 hw] at this; exact this
  have bgA : ∀ q ∈ a_q a, q.2.2.2 ≤ zL a := by
    intro q hq2
    obtain ⟨i, hi2⟩ := List.mem_iff_getElem?.mp hq2
    have := (h.2.2.1.2.2.2 i q hi2).2.2.1
    rw [zIW_0 hw] at this; exact this
  rw [f_X5_readPlaceOrCall, q_X5_readPlaceOrCall_0]
  unfold zActs
  refine cbUV (c_readUnit (d := d + 6) (o := 0) hT (D_X 10) (by omega) (fun _ => HS_le hE1) h ho hw hb hty) (fun t a1 σ1 e1 h1 s1 => ?_) (fun e y σ F => ft_readPlaceOrCall_0_s2 F)
  obtain ⟨⟨x1, x2, x3, x4⟩, w1⟩ := D_unit (D_X 10) (PC_len h) e1
  have pe := PrE_unit (PrE_X 10) e1
  have ok1 := okL_E pe x1.2.2.2.2.2.2.1 okA
  have sh4 : a_s a1 ≤ 4 := by rcases w1 with ⟨-, w | w⟩ | ⟨-, w⟩ | ⟨-, w, -⟩ | ⟨-, w⟩ <;> omega
  obtain ⟨c1, c4, c3, c0⟩ := csh_d (a_s a1) sh4
  have zl1 : zL a ≤ zL a1 := by
    obtain ⟨⟨l, hl, -⟩, -⟩ := pe
    unfold zL; rw [hl, List.length_append]; omega
  rw [s1, PC_k h1]
  by_cases q4 : a_s a1 = 4
  · -- a call
    have W1 : wN a1 = 0 := by
      rcases w1 with ⟨w, -⟩ | ⟨-, w⟩ | ⟨-, w, -⟩ | ⟨-, w⟩
      · exact wN_z w
      · omega
      · omega
      · omega
    rw [if_pos (c1.mpr q4)]
    have e0 : (if T.1 (a_p a1) = 61 then
        (if a_s a1 = 1 ∨ a_s a1 = 2 ∨ a_s a1 = 3 then
          (if a_s a1 = 3 ∧ ((a_w a1).2.1 = 2 ∨ (a_w a1).2.1 = 3 ∨ (a_w a1).2.1 = 4) then .inl (4, a_p a1) else
            pb (zN (aW a1 (0, 0, 0, 0))) (fun _ a2 => pb (zExp T a2) (fun u a3 => if T.1 (a_p a3) = 59 then (if cFit u t = 1 then pb (zN a3) (fun _ a4 => .inr (0, zE a4 (if a_s a1 = 1 then 6 else if a_s a1 = 2 then 16 else 18) (a_w a1).2.1 0 t (T.2.2.2 (a_p a1)))) else .inl (4, a_p a3)) else .inl (1, a_p a3))))
        else .inl (1, a_p a1))
      else if T.1 (a_p a1) = 59 ∧ a_s a1 = 4 then pb (zN a1) (fun _ a2 => .inr (0, zE a2 (if t = 38 then 35 else 1) 0 0 0 (-1))) else .inl (1, a_p a1) : zR) = pb (zMust T 59 a1) (fun _ a2 => .inr (0, zE a2 (if t = 38 then 35 else 1) 0 0 0 (-1))) := by
      unfold zMust
      by_cases k1 : T.1 (a_p a1) = 61
      · rw [if_pos k1, if_neg (by omega), if_neg (by rw [k1]; decide)]; rfl
      · rw [if_neg k1]
        by_cases k2 : T.1 (a_p a1) = 59
        · rw [if_pos ⟨k2, q4⟩, if_pos k2]
        · rw [if_neg (fun z => k2 z.1), if_neg k2]; rfl
    rw [e0]
    refine cbVV (c_expect (d := d + 18) hT h1 (by decide) (by decide)) (fun _ a2 σ2 e2 h2 => ?_) (fun e σ F => ft_readPlaceOrCall_0_s4 F)
    obtain ⟨-, -, e2⟩ := zMust_inr.mp e2
    have E2 : a2 = aP a1 (a_p a1 + 1) := congrArg Prod.snd e2
    have w2 : wN a2 = 0 := by rw [E2]; exact W1
    have l2 : zL a2 < 900 := by rw [E2]; show zL a1 < 900; unfold nW at x4; omega
    by_cases q38 : t = 38
    · rw [if_pos q38]
      exact emV' (op := 35) (tgt := 0) h2 w2 l2 rfl (by decide) (Nat.zero_le _) rfl (cArg_n (by decide))
    · rw [if_neg q38]
      exact emV' (op := 1) (tgt := 0) h2 w2 l2 rfl (by decide) (Nat.zero_le _) rfl (cArg_n (by decide))
  · rw [if_neg (fun z => q4 (c1.mp z))]
    have hform : ∀ r : sm_R, FV 1 (T.2.2.2 (a_p a1)) ci O r → SCV ci O T N r (.inl (1, a_p a1)) := fun r hr => hr
    by_cases k1 : T.1 (a_p a1) = 61
    · rw [if_pos k1, if_pos k1]
      by_cases q0 : a_s a1 = 0
      · rw [if_pos (c4.mpr q0), if_neg (by omega), PC_pl h1]
        exact SCV_f (bindV (c_refuse h1 (by decide)) (fun σ F => fv_ret F))
      · rw [if_neg (fun z => q0 (c4.mp z)), if_pos (show a_s a1 = 1 ∨ a_s a1 = 2 ∨ a_s a1 = 3 by omega)]
        have W1 : wN a1 = 1 := by
          unfold wN
          rcases w1 with ⟨w, w' | w'⟩ | ⟨w, -⟩ | ⟨w, -, -⟩ | ⟨w, -⟩
          · omega
          · omega
          · rw [if_pos (Or.inl w)]
          · rw [if_pos (Or.inr (Or.inl w))]
          · rw [if_pos (Or.inr (Or.inr w))]
        have l1 : zL a1 + 1 ≤ a_p a1 := by unfold nW at x4; rw [W1] at x4; omega
        obtain ⟨σ2, e2, h2, s2⟩ := c_take (X := X) (d := d + 19) h1 W1 ok1 (by omega) (fun q hq2 => by rw [x1.2.2.2.1] at hq2; have := bgA q hq2; omega)
        have e2 : sm_callM X true (d + 20) 14 [vP (10, ci)] σ1 = _ := e2
        rw [if_cd h1.2.2.2.2.1, PC_cd h1, e2, bI_r]
        have pl2 : σ2.1 15 0 7 = T.2.2.2 (a_p a1) := PC_pl (a := aW a1 (0, 0, 0, 0)) h2
        rw [pl2]
        have main : ∀ (y : Int32) (c : Bool), (y = 0 ↔ c = false) → (c = true ↔ ¬ (a_s a1 = 3 ∧ ((a_w a1).2.1 = 2 ∨ (a_w a1).2.1 = 3 ∨ (a_w a1).2.1 = 4))) → SCV ci O T N (sm_go (sm_ZZ X) sm_PP true (sm_callM X true (d + 20)) 98 92 [vP (15, 0), vI t, vI (csh (a_s a1)), vI (a_w a1).2.1, vI (T.2.2.2 (a_p a1)), vU] [vI y, vI 61, vP (15, 0)] σ2) (if a_s a1 = 3 ∧ ((a_w a1).2.1 = 2 ∨ (a_w a1).2.1 = 3 ∨ (a_w a1).2.1 = 4) then .inl (4, a_p a1) else pb (zN (aW a1 (0, 0, 0, 0))) (fun _ a2 => pb (zExp T a2) (fun u a3 => if T.1 (a_p a3) = 59 then (if cFit u t = 1 then pb (zN a3) (fun _ a4 => .inr (0, zE a4 (if a_s a1 = 1 then 6 else if a_s a1 = 2 then 16 else 18) (a_w a1).2.1 0 t (T.2.2.2 (a_p a1)))) else .inl (4, a_p a3)) else .inl (1, a_p a3)))) := by
          intro y c hy hc
          rw [q_X5_readPlaceOrCall_92, if_pos rfl]
          have e0 : (if a_s a1 = 3 ∧ ((a_w a1).2.1 = 2 ∨ (a_w a1).2.1 = 3 ∨ (a_w a1).2.1 = 4) then .inl (4, a_p a1) else pb (zN (aW a1 (0, 0, 0, 0))) (fun _ a2 => pb (zExp T a2) (fun u a3 => if T.1 (a_p a3) = 59 then (if cFit u t = 1 then pb (zN a3) (fun _ a4 => .inr (0, zE a4 (if a_s a1 = 1 then 6 else if a_s a1 = 2 then 16 else 18) (a_w a1).2.1 0 t (T.2.2.2 (a_p a1)))) else .inl (4, a_p a3)) else .inl (1, a_p a3))) : zR) = pb (zFitT T 61 c (aW a1 (0, 0, 0, 0))) (fun _ a2 => pb (zExp T a2) (fun u a3 => if T.1 (a_p a3) = 59 then (if cFit u t = 1 then pb (zN a3) (fun _ a4 => .inr (0, zE a4 (if a_s a1 = 1 then 6 else if a_s a1 = 2 then 16 else 18) (a_w a1).2.1 0 t (T.2.2.2 (a_p a1)))) else .inl (4, a_p a3)) else .inl (1, a_p a3))) := by
            rw [fit_pb (a := aW a1 (0, 0, 0, 0)) k1]
            by_cases q2 : a_s a1 = 3 ∧ ((a_w a1).2.1 = 2 ∨ (a_w a1).2.1 = 3 ∨ (a_w a1).2.1 = 4)
            · rw [if_pos q2, if_neg (fun z => (hc.mp z) q2)]; rfl
            · rw [if_neg q2, if_pos (hc.mpr q2)]
          rw [e0]
          refine cbVV (c_expectFit (d := d + 18) hT h2 (by decide) (by decide) hy) (fun _ a2 σ3 e3 h3 => ?_) (fun e σ F => ft_readPlaceOrCall_92_s2 F)
          obtain ⟨-, n3, e3⟩ := fit_inr e3
          have E3 : a2 = aP (aW a1 (0, 0, 0, 0)) (a_p a1 + 1) := congrArg Prod.snd e3
          have w3 : wN a2 = 0 := by rw [E3]; rfl
          have z3 : zL a2 = zL a1 := by rw [E3]; rfl
          have p3 : a_p a2 = a_p a1 + 1 := by rw [E3]; rfl
          have o3 : a_o a2 = 0 := by rw [E3]; exact x1.2.2.2.2.2.2.2.1.trans ho
          have t3 : tyA a2 := by rw [E3]; exact (show tyA a1 from tyA_eq x1 hty)
          refine cbIV (hE 20 a2 σ3 h3 w3 o3 (by omega) t3) (fun u a3 σ4 e4 h4 => ?_) (fun e y σ F => ft_readPlaceOrCall_92_s4 F)
          obtain ⟨w4, b4, l4, lt4, q4, -⟩ := Exp_b (PC_len h3) (by omega) e4
          rw [c_fits, bI_r, fit_e (c := decide (cFit u t = 1)) (P := cFit u t = 1) (by rw [decide_eq_true_iff])]
          refine cbVV (c_expectFit (d := d + 18) hT h4 (by decide) (by decide) (cFit_b _ _)) (fun _ a4 σ5 e5 h5 => ?_) (fun e σ F => ft_readPlaceOrCall_92_s8 F)
          obtain ⟨-, n5, e5⟩ := fit_inr e5
          have E5 : a4 = aP a3 (a_p a3 + 1) := congrArg Prod.snd e5
          have w5 : wN a4 = 0 := by rw [E5]; exact w4
          have l5 : zL a4 < 900 := by rw [E5]; exact l4
          by_cases r1 : a_s a1 = 1
          · rw [if_pos (c0.mpr r1), if_pos r1]
            exact emV' (op := 6) (tgt := 0) h5 w5 l5 rfl (by decide) (Nat.zero_le _) rfl (cArg_n (by decide))
          · rw [if_neg (fun z => r1 (c0.mp z)), if_neg r1]
            by_cases r3 : a_s a1 = 3
            · rw [if_pos (c3.mpr r3), if_neg (show ¬ a_s a1 = 2 by omega)]
              exact emV' (op := 18) (tgt := 0) h5 w5 l5 rfl (by decide) (Nat.zero_le _) rfl (cArg_n (by decide))
            · rw [if_neg (fun z => r3 (c3.mp z)), if_pos (show a_s a1 = 2 by omega)]
              exact emV' (op := 16) (tgt := 0) h5 w5 l5 rfl (by decide) (Nat.zero_le _) rfl (cArg_n (by decide))
        by_cases r3 : a_s a1 = 3
        · rw [if_pos (c3.mpr r3), reck, bI_r]
          by_cases rr : (a_w a1).2.1 = 2 ∨ (a_w a1).2.1 = 3 ∨ (a_w a1).2.1 = 4
          · rw [if_pos rr, if_neg (by decide)]
            exact main 0 false ⟨fun _ => rfl, fun _ => rfl⟩ ⟨fun z => (by cases z), fun z => absurd ⟨r3, rr⟩ z⟩
          · rw [if_neg rr, if_pos rfl]
            exact main 1 true ⟨fun z => absurd z (by decide), fun z => (by cases z)⟩ ⟨fun _ => fun z => rr z.2, fun _ => rfl⟩
        · rw [if_neg (fun z => r3 (c3.mp z))]
          exact main 1 true ⟨fun z => absurd z (by decide), fun z => (by cases z)⟩ ⟨fun _ => fun z => r3 z.1, fun _ => rfl⟩
    · rw [if_neg k1, if_neg k1, if_neg (fun z => q4 z.2), PC_pl h1]
      exact SCV_f (bindV (c_refuse h1 (by decide)) (fun σ F => fv_ret F))
end
