section
variable {X : Nat × (Nat → Int32)} {d : Nat} {s σ : sm_S} {ci N : Nat} {O : Nat → Nat → Nat → Int32} {T : zT} {a b : zA} {t : Int32} {sub : zA → zR}
theorem PC_w0 (h : PC ci O T N a σ) (hw : wN a = 0) : PC ci O T N (aW (aS a 0) (0, 0, 0, 0)) σ := by
  obtain ⟨h1, h2⟩ := h
  refine ⟨h1, ?_⟩
  unfold PR at h2 ⊢
  rw [zIW_0 hw] at h2
  rw [zIW_0 (show wN (aW (aS a 0) (0, 0, 0, 0)) = 0 from rfl)]
  exact h2
theorem SCU_r {r : sm_R} {z : zR} (h : SCU ci O T N r z) : SCU ci O T N (sm_bI r sm_tw (fun y s => some (some (some (vI y)), s))) z := by
  rcases z with e | x
  · obtain ⟨y, σ', rfl, F⟩ := h; exact ⟨y, σ', rfl, F⟩
  · obtain ⟨σ', rfl, P⟩ := h; exact ⟨σ', rfl, P⟩
theorem neg1_mul (x : Int32) : (-1 : Int32) * x = -x := by
  rw [Int32.neg_mul, Int32.one_mul]
theorem c_fst (hT : TK T N) (hD : SubD sub) (h : PC ci O T N a σ) (ho : a_o a ≤ 10) (hs : a_o a < 10 → HS X d ci O T N sub (a_o a + 1)) (hw : wN a = 0) (hs0 : a_s a = 0) (hb : zL a ≤ a_p a) (hty : tyA a) : SCU ci O T N (sm_callM X true (d + 13) 111 [vP (15, 0), vI (Int32.ofNat (a_o a))] σ) (zFst T sub a) := by
  have hl := len_p h hb
  rw [f_X5_readFirst, q_X5_readFirst_0, PC_k h, PC_pl h]
  unfold zFst
  by_cases k3 : T.1 (a_p a) = 3
  · rw [if_pos k3, if_neg (show ¬ T.1 (a_p a) = 4 by rw [k3]; decide), if_neg (show ¬ T.1 (a_p a) = 45 by rw [k3]; decide), if_neg (show ¬ T.1 (a_p a) = 211 by rw [k3]; decide), if_neg (show ¬ T.1 (a_p a) = 210 by rw [k3]; decide), if_neg (show ¬ T.1 (a_p a) = 40 by rw [k3]; decide), if_pos k3, PC_nx hT h (by rw [k3]; decide) (by rw [k3]; decide)]
    by_cases k40 : T.1 (a_p a + 1) = 40
    · rw [if_pos k40, if_pos k40]
      exact SCU_r (c_readCall hT hD h k3 ho hs hw hb hty)
    · rw [if_neg k40, if_neg k40]
      exact SCU_r (c_readName (d := d + 10) hT h hw hl k3)
  rw [if_neg k3]
  by_cases k4 : T.1 (a_p a) = 4
  · rw [if_pos k4, if_pos k4]
    have hN := c_readNumber (X := X) (d := d + 9) (f := 1) (p0 := a_p a) hT h hw hl hs0 rfl
    rw [if_pos k4, Int32.one_mul] at hN
    exact SCU_r hN
  rw [if_neg k4, if_neg k4]
  by_cases k40 : T.1 (a_p a) = 40
  · rw [if_pos k40, if_neg (show ¬ T.1 (a_p a) = 45 by rw [k40]; decide), if_neg (show ¬ T.1 (a_p a) = 211 by rw [k40]; decide), if_neg (show ¬ T.1 (a_p a) = 210 by rw [k40]; decide), if_pos k40]
    refine cbVU (c_expectOpening (d := d + 10) hT h (by decide) (by decide) rfl ho) (fun _ a1 σ1 e1 h1 => ?_) (fun e σ F => ft_readFirst_0_s8 F)
    obtain ⟨c1, n1, e1⟩ := zOpens_inr.mp e1
    have E1 : a1 = aP (aO a (a_o a + 1)) (a_p a + 1) := congrArg Prod.snd e1
    have w1 : wN a1 = 0 := by rw [E1]; exact hw
    have b1 : zL a1 ≤ a_p a1 := by rw [E1]; show zL a ≤ a_p a + 1; omega
    have t1 : tyA a1 := by rw [E1]; exact hty
    have o1 : a_o a1 = a_o a + 1 := by rw [E1]; rfl
    rw [i_s]
    refine cbIU (hs c1.2 12 a1 σ1 h1 w1 o1 b1 t1) (fun u a2 σ2 e2 h2 => ?_) (fun e y σ F => ft_readFirst_0_s10 F)
    have e0 : (if T.1 (a_p a2) = 41 then pb (zN (aO a2 (a_o a2 - 1))) (fun _ a3 => .inr (u, aS a3 0)) else .inl (1, a_p a2) : zR) = pb (zMust T 41 (aO a2 (a_o a2 - 1))) (fun _ a3 => .inr (u, aS a3 0)) := by
      unfold zMust
      show _ = pb (if T.1 (a_p a2) = 41 then _ else _) _
      by_cases q : T.1 (a_p a2) = 41
      · rw [if_pos q, if_pos q]
      · rw [if_neg q, if_neg q]; rfl
    rw [e0]
    refine cbVU (c_expect (d := d + 10) (a := aO a2 (a_o a2 - 1)) hT h2 (by decide) (by decide)) (fun _ a3 σ3 e3 h3 => ?_) (fun e σ F => ft_readFirst_0_s12 F)
    exact ⟨_, rfl, PC_sh h3, by rw [gI, if_pos ⟨rfl, rfl, rfl⟩]; rfl⟩
  rw [if_neg k40]
  by_cases k45 : T.1 (a_p a) = 45
  · rw [if_pos k45, if_pos k45]
    refine cbVU (c_pass (d := d + 11) hT h (by rw [k45]; decide) (by rw [k45]; decide)) (fun _ a1 σ1 e1 h1 => ?_) (fun e σ F => ft_readFirst_0_s14 F)
    obtain ⟨n1, e1⟩ := zN_inr.mp e1
    have E1 : a1 = aP a (a_p a + 1) := congrArg Prod.snd e1
    have w1 : wN a1 = 0 := by rw [E1]; exact hw
    have s1 : a_s a1 = 0 := by rw [E1]; exact hs0
    have l1 : zL a1 < 900 := by rw [E1]; exact hl
    have hN := c_readNumber (X := X) (d := d + 9) (f := -1) (p0 := a_p a) hT h1 w1 l1 s1 rfl
    rw [neg1_mul] at hN
    exact SCU_r hN
  rw [if_neg k45, if_neg k45]
  by_cases k210 : T.1 (a_p a) = 210
  · rw [if_pos k210, if_neg (show ¬ T.1 (a_p a) = 211 by rw [k210]; decide), if_pos k210]
    exact SCU_r (c_readNew (d := d + 1) hT hD h k210 ho (fun z => HS_le (hs z)) hw hs0 hb hty)
  rw [if_neg k210]
  by_cases k211 : T.1 (a_p a) = 211
  · rw [if_pos k211, if_pos k211]
    have e0 : pb (zN (zE a 4 0 0 37 (T.2.2.2 (a_p a)))) (fun _ a1 => .inr (37, a1)) = pb (zN a) (fun _ a1 => .inr (37, zE a1 4 0 0 37 (T.2.2.2 (a_p a)))) := by rw [zN_E, pb_pb]; rfl
    rw [e0]
    refine cbVU (c_pass (d := d + 11) hT h (by rw [k211]; decide) (by rw [k211]; decide)) (fun _ a1 σ1 e1 h1 => ?_) (fun e σ F => ft_readFirst_0_s20 F)
    obtain ⟨n1, e1⟩ := zN_inr.mp e1
    have E1 : a1 = aP a (a_p a + 1) := congrArg Prod.snd e1
    have w1 : wN a1 = 0 := by rw [E1]; exact hw
    have s1 : a_s a1 = 0 := by rw [E1]; exact hs0
    have l1 : zL a1 < 900 := by rw [E1]; exact hl
    obtain ⟨σ2, e2, h2, h2s⟩ := c_em (X := X) (d := d + 11) (op := 4) (arg := 0) (ty := 37) (o := 4) (g := 0) (pl := T.2.2.2 (a_p a)) (tgt := 0) (PC_sh (x := 4) h1) w1 l1 rfl (by decide) (Nat.zero_le _) rfl (cArg_n (by decide))
    have e2 : sm_callM X true (d + 12) 13 [vP (10, ci), vI 4, vI 0, vI (T.2.2.2 (a_p a))] (sI σ1 15 0 10 4) = _ := e2
    rw [if_cd (PC_sh (x := 4) h1).2.2.2.2.1, PC_cd (PC_sh (x := 4) h1), e2, bI_r]
    refine ⟨_, rfl, h2, ?_⟩
    rw [h2s, gI, if_pos ⟨rfl, rfl, rfl⟩]
    show (4 : Int32) = csh (a_s a1)
    rw [s1]; rfl
  · rw [if_neg k211, if_neg k211, if_neg k210, if_neg k40, if_neg k3]
    exact SCU_f (bindV (c_refuse h (by decide)) (fun σ F => fi_ret F))
theorem c_readFirst (hT : TK T N) (hD : SubD sub) (h : PC ci O T N a σ) (ho : a_o a ≤ 10) (hs : a_o a < 10 → HS X d ci O T N sub (a_o a + 1)) (hw : wN a = 0) (hb : zL a ≤ a_p a) (hty : tyA a) : SCU ci O T N (sm_callM X true (d + 13) 111 [vP (15, 0), vI (Int32.ofNat (a_o a))] σ) (zFirst T sub a) :=
  c_fst (a := aW (aS a 0) (0, 0, 0, 0)) hT hD (PC_w0 h hw) ho hs rfl rfl hb hty
theorem c_UL {o : Nat} (hT : TK T N) (hD : SubD sub) (ho : o ≤ 10) (hs : o < 10 → HS X d ci O T N sub (o + 1)) : ∀ (f i : Nat) (t : Int32) (a : zA) (σ : sm_S), PC ci O T N a σ → a_o a = o → nW a ≤ a_p a → tyA a → wOk a → σ.1 15 0 10 = csh (a_s a) → i ≤ a_p a → 801 ≤ f + a_p a →
    SCU ci O T N (sm_go (sm_ZZ X) sm_PP true (sm_callM X true (d + 13)) 110 8 [vP (15, 0), vI (Int32.ofNat o), vI t, vI (Int32.ofNat i)] [] σ) (zUL T sub f t a)
  | 0, i, t, a, σ, h, hoa, hb, hty, hw, hsh, hi, hf => by have := PC_len h; omega
  | f + 1, i, t, a, σ, h, hoa, hb, hty, hw, hsh, hi, hf => by
    have hp := PC_len h
    have go : ∀ {t1 a1 σ1}, Dx (nW a) a a1 ∧ wOk a1 → PC ci O T N a1 σ1 → σ1.1 15 0 10 = csh (a_s a1) → SCU ci O T N (sm_go (sm_ZZ X) sm_PP true (sm_callM X true (d + 13)) 110 8 [vP (15, 0), vI (Int32.ofNat o), vI t1, vI (Int32.ofNat (i + 1))] [] σ1) (zUL T sub f t1 a1) := by
      intro t1 a1 σ1 hd h1 s1
      obtain ⟨⟨x1, x2, x3, x4⟩, w1⟩ := hd
      exact c_UL hT hD ho hs f (i + 1) t1 a1 σ1 h1 (x1.2.2.2.2.2.2.2.1.trans hoa) (by omega) (tyA_eq x1 hty) w1 s1 (by omega) (by omega)
    rw [q_X5_readUnit_8, if_neg (by rw [show (800 : Int32) = Int32.ofNat 800 from rfl, i_lt (by omega) (by omega)]; omega), PC_k h, zUL]
    by_cases k1 : T.1 (a_p a) = 91
    · rw [if_pos k1, if_pos k1]
      have hI := c_readIndex (X := X) (d := d + 2) (t := t) hT hD h k1 (by rw [hoa]; exact ho) (fun z => by rw [hoa] at z ⊢; exact HS_le (hs z)) hb hty
      rw [hoa] at hI
      refine cbUU hI (fun t1 a1 σ1 e1 h1 s1 => ?_) (fun e y σ F => ft_readUnit_8_s2 F)
      rw [i_s]
      exact go (D_idx hD hp e1) h1 s1
    rw [if_neg k1, if_neg k1]
    by_cases k2 : T.1 (a_p a) = 46
    · rw [if_pos k2, if_pos k2]
      refine cbUU (c_readMember (d := d + 2) hT h k2 hb) (fun t1 a1 σ1 e1 h1 s1 => ?_) (fun e y σ F => ft_readUnit_8_s4 F)
      rw [i_s]
      exact go (D_mem hp e1) h1 s1
    rw [if_neg k2, if_neg k2]
    by_cases k3 : T.1 (a_p a) = 213
    · rw [if_pos k3, if_pos (Or.inl k3)]
      refine cbUU (c_readAsked (d := d + 2) hT h (Or.inl k3) hb) (fun t1 a1 σ1 e1 h1 s1 => ?_) (fun e y σ F => ft_readUnit_8_s6 F)
      rw [i_s]
      exact go (D_ask hp e1) h1 s1
    rw [if_neg k3]
    by_cases k4 : T.1 (a_p a) = 212
    · rw [if_pos k4, if_pos (Or.inr k4)]
      refine cbUU (c_readAsked (d := d + 2) hT h (Or.inr k4) hb) (fun t1 a1 σ1 e1 h1 s1 => ?_) (fun e y σ F => ft_readUnit_8_s8 F)
      rw [i_s]
      exact go (D_ask hp e1) h1 s1
    · rw [if_neg k4, if_neg (fun z => z.elim k3 k4)]
      exact ⟨σ, rfl, h, hsh⟩
theorem c_readUnit {o : Nat} (hT : TK T N) (hD : SubD sub) (ho : o ≤ 10) (hs : o < 10 → HS X d ci O T N sub (o + 1)) (h : PC ci O T N a σ) (hoa : a_o a = o) (hw : wN a = 0) (hb : zL a ≤ a_p a) (hty : tyA a) : SCU ci O T N (sm_callM X true (d + 14) 110 [vP (15, 0), vI (Int32.ofNat o)] σ) (zUnit T sub a) := by
  rw [f_X5_readUnit, q_X5_readUnit_0]
  unfold zUnit
  have hF := c_readFirst (X := X) (d := d) hT hD h (by rw [hoa]; exact ho) (fun z => by rw [hoa] at z ⊢; exact hs z) hw hb hty
  rw [hoa] at hF
  refine cbUU hF (fun t1 a1 σ1 e1 h1 s1 => ?_) (fun e y σ F => ft_readUnit_0_s2 F)
  obtain ⟨⟨x1, x2, x3, x4⟩, w1⟩ := D_first hD (PC_len h) e1
  exact c_UL hT hD ho hs 801 0 t1 a1 σ1 h1 (x1.2.2.2.2.2.2.2.1.trans hoa) (by omega) (tyA_eq x1 hty) w1 s1 (Nat.zero_le _) (by omega)
/-- a value: what waits is read -/
theorem zUV_U : zUV T sub a = pb (zUnit T sub a) (fun t a1 => .inr (t, zReads a1)) := rfl
theorem c_finish {op : Nat} {o u pl : Int32} {p0 : Nat} (h : PC ci O T N a σ) (hw : wN a = 0) (hl : zL a < 900) (hv : vC op = true) (h33 : ¬ op = 33) (hj : ¬ (op = 0 ∨ op = 26)) (ho : o = Int32.ofNat (cOp op)) (hpl : pl = T.2.2.2 p0) : SCI ci O T N (sm_callM X true (d + 2) 109 [vP (15, 0), vI o, vI u, vI pl] σ) (if u = 36 then .inr (36, zE a op 0 0 36 (T.2.2.2 p0)) else .inl (4, p0)) := by
  subst hpl
  rw [f_X5_finishSign, q_X5_finishSign_0]
  by_cases q : u = 36
  · rw [if_pos q, if_pos q]
    refine emI (d := d) (op := op) (arg := 0) (ty := 36) (tgt := 0) h hw hl hv h33 (Nat.zero_le _) ho (cArg_n hj) (fun σ1 h1 => ?_)
    exact ⟨_, rfl, h1⟩
  · rw [if_neg q, if_neg q]
    exact SCI_f (bindV (c_refuse h (by decide)) (fun σ F => ft_finishSign_0_s4 F))
theorem pb_if {c : Prop} [Decidable c] {e : Int32 × Nat} {x : Int32 × zA} {k : Int32 → zA → zR} : pb (if c then .inr x else .inl e) k = if c then k x.1 x.2 else .inl e := by split <;> rfl
theorem fit_pb {x : Int32} {c : Bool} {k : Int32 → zA → zR} (hk : T.1 (a_p a) = x) : pb (zFitT T x c a) k = if c = true then pb (zN a) k else .inl (4, a_p a) := by
  unfold zFitT
  rw [if_pos hk]
  split <;> rfl
theorem c_PL {o : Nat} (hT : TK T N) (hD : SubD sub) (ho : o ≤ 10) (hs : o < 10 → HS X d ci O T N sub (o + 1)) : ∀ (f i : Nat) (t : Int32) (a : zA) (σ : sm_S) (d4 d5 : sm_V), PC ci O T N a σ → wN a = 0 → a_o a = o → zL a ≤ a_p a → tyA a → i ≤ a_p a → 801 ≤ f + a_p a →
    SCI ci O T N (sm_go (sm_ZZ X) sm_PP true (sm_callM X true (d + 14)) 108 8 [vP (15, 0), vI (Int32.ofNat o), vI t, vI (Int32.ofNat i), d4, d5] [] σ) (zPL T sub f t a)
  | 0, i, t, a, σ, d4, d5, h, hw, hoa, hb, hty, hi, hf => by have := PC_len h; omega
  | f + 1, i, t, a, σ, d4, d5, h, hw, hoa, hb, hty, hi, hf => by
    have hp := PC_len h
    rw [q_X5_readProduct_8, if_neg (by rw [show (800 : Int32) = Int32.ofNat 800 from rfl, i_lt (by omega) (by omega)]; omega), PC_k h, zPL]
    by_cases k1 : T.1 (a_p a) = 42
    · rw [if_pos k1, if_pos k1]
      have key : ∀ (y : Int32) (c : Bool), (y = 0 ↔ c = false) → (c = true ↔ t = 36) → SCI ci O T N (sm_go (sm_ZZ X) sm_PP true (sm_callM X true (d + 14)) 108 44 [vP (15, 0), vI (Int32.ofNat o), vI t, vI (Int32.ofNat i), vI (σ.1 15 0 7), vU] [vI y, vI 42, vP (15, 0)] σ) (if t = 36 then pb (zN a) (fun _ a1 => pb (zUV T sub a1) (fun u a2 => if u = 36 then zPL T sub f 36 (zE a2 9 0 0 36 (T.2.2.2 (a_p a))) else .inl (4, a_p a))) else .inl (4, a_p a)) := by
        intro y c hy hc
        rw [q_X5_readProduct_44, if_pos rfl, PC_pl h]
        have e0 : (if t = 36 then pb (zN a) (fun _ a1 => pb (zUV T sub a1) (fun u a2 => if u = 36 then zPL T sub f 36 (zE a2 9 0 0 36 (T.2.2.2 (a_p a))) else .inl (4, a_p a))) else .inl (4, a_p a) : zR) = pb (zFitT T 42 c a) (fun _ a1 => pb (zUnit T sub a1) (fun u a2 => pb (if u = 36 then .inr (36, zE (zReads a2) 9 0 0 36 (T.2.2.2 (a_p a))) else .inl (4, a_p a)) (fun t a => zPL T sub f t a))) := by
          rw [fit_pb k1]
          simp only [zUV_U, pb_pb, pb_r, pb_if]
          by_cases q2 : t = 36
          · rw [if_pos q2, if_pos (hc.mpr q2)]
          · rw [if_neg q2, if_neg (fun z => q2 (hc.mp z))]
        rw [e0]
        refine cbVI (c_expectFit (d := d + 12) hT h (by decide) (by decide) hy) (fun _ a1 σ1 e1 h1 => ?_) (fun e σ F => ft_readProduct_44_s2 F)
        unfold zFitT at e1; rw [it_l, it_l] at e1
        obtain ⟨-, -, e1⟩ := e1
        obtain ⟨n1, e1⟩ := zN_inr.mp e1
        have E1 : a1 = aP a (a_p a + 1) := congrArg Prod.snd e1
        have w1 : wN a1 = 0 := by rw [E1]; exact hw
        have b1 : zL a1 ≤ a_p a1 := by rw [E1]; show zL a ≤ a_p a + 1; omega
        have p1 : a_p a1 = a_p a + 1 := by rw [E1]; rfl
        have z1 : zL a1 = zL a := by rw [E1]; rfl
        have t1 : tyA a1 := by rw [E1]; exact hty
        have o1 : a_o a1 = o := by rw [E1]; exact hoa
        refine cbUI (c_readUnit hT hD ho hs h1 o1 w1 b1 t1) (fun u a2 σ2 e2 h2 s2 => ?_) (fun e y σ F => ft_readProduct_44_s4 F)
        obtain ⟨⟨x1, x2, x3, x4⟩, w2⟩ := D_unit hD (PC_len h1) e2
        have hr := PC_reads h2
        have W : wN (zReads a2) = 0 := wN_z (by rw [w_reads])
        have L := (nW_reads (a := a2)).1
        have P := p_reads (a := a2)
        have O : a_o (zReads a2) = o := (eqx_reads (a := a2)).2.2.2.2.2.2.2.1.trans (x1.2.2.2.2.2.2.2.1.trans o1)
        have TY : tyA (zReads a2) := tyA_eq eqx_reads (tyA_eq x1 t1)
        refine cbII (c_finish (d := d + 12) (op := 9) (p0 := a_p a) hr W (by omega) rfl (by decide) (by decide) rfl rfl) (fun t3 a3 σ3 e3 h3 => ?_) (fun e y σ F => ft_readProduct_44_s6 F)
        rw [it_l] at e3
        obtain ⟨q3, e3⟩ := e3
        cases e3
        rw [i_s]
        refine c_PL hT hD ho hs f (i + 1) 36 _ σ3 _ _ h3 W O ?_ TY ?_ ?_
        · rw [zL_E]; show zL (zReads a2) + 1 ≤ a_p (zReads a2); omega
        · show i + 1 ≤ a_p (zReads a2); omega
        · show 801 ≤ f + a_p (zReads a2); omega
      by_cases q2 : t = 36
      · rw [if_pos q2]; exact key 1 true ⟨fun z => absurd z (by decide), fun z => (by cases z)⟩ ⟨fun _ => q2, fun _ => rfl⟩
      · rw [if_neg q2]; exact key 0 false ⟨fun _ => rfl, fun _ => rfl⟩ ⟨fun z => (by cases z), fun z => absurd z q2⟩
    · rw [if_neg k1, if_neg k1]
      exact ⟨σ, rfl, h⟩
theorem c_readProduct {o : Nat} (hT : TK T N) (hD : SubD sub) (ho : o ≤ 10) (hs : o < 10 → HS X d ci O T N sub (o + 1)) (h : PC ci O T N a σ) (hoa : a_o a = o) (hw : wN a = 0) (hb : zL a ≤ a_p a) (hty : tyA a) : SCI ci O T N (sm_callM X true (d + 15) 108 [vP (15, 0), vI (Int32.ofNat o)] σ) (zProd T sub a) := by
  rw [f_X5_readProduct, q_X5_readProduct_0]
  have e0 : zProd T sub a = pb (zUnit T sub a) (fun t a1 => zPL T sub 801 t (zReads a1)) := by
    unfold zProd; rw [zUV_U, pb_pb]; rfl
  rw [e0]
  refine cbUI (c_readUnit hT hD ho hs h hoa hw hb hty) (fun t1 a1 σ1 e1 h1 s1 => ?_) (fun e y σ F => ft_readProduct_0_s2 F)
  obtain ⟨⟨x1, x2, x3, x4⟩, w1⟩ := D_unit hD (PC_len h) e1
  have L := (nW_reads (a := a1)).1
  have P := p_reads (a := a1)
  exact c_PL hT hD ho hs 801 0 t1 _ σ1 _ _ (PC_reads h1) (wN_z (by rw [w_reads])) ((eqx_reads (a := a1)).2.2.2.2.2.2.2.1.trans (x1.2.2.2.2.2.2.2.1.trans hoa)) (by omega) (tyA_eq eqx_reads (tyA_eq x1 hty)) (Nat.zero_le _) (by omega)
theorem c_SL {o : Nat} (hT : TK T N) (hD : SubD sub) (ho : o ≤ 10) (hs : o < 10 → HS X d ci O T N sub (o + 1)) : ∀ (f i : Nat) (t : Int32) (a : zA) (σ : sm_S) (d4 d5 d6 : sm_V), PC ci O T N a σ → wN a = 0 → a_o a = o → zL a ≤ a_p a → tyA a → i ≤ a_p a → 801 ≤ f + a_p a →
    SCI ci O T N (sm_go (sm_ZZ X) sm_PP true (sm_callM X true (d + 15)) 107 8 [vP (15, 0), vI (Int32.ofNat o), vI t, vI (Int32.ofNat i), d4, d5, d6] [] σ) (zSL T sub f t a)
  | 0, i, t, a, σ, d4, d5, d6, h, hw, hoa, hb, hty, hi, hf => by have := PC_len h; omega
  | f + 1, i, t, a, σ, d4, d5, d6, h, hw, hoa, hb, hty, hi, hf => by
    have hp := PC_len h
    rw [q_X5_readSum_8, if_neg (by rw [show (800 : Int32) = Int32.ofNat 800 from rfl, i_lt (by omega) (by omega)]; omega), PC_k h, zSL]
    have main : ∀ (op : Nat) (x : Int32), T.1 (a_p a) = x → x ≠ 6 → x ≠ 7 → (op = 7 ∨ op = 8) → SCI ci O T N (sm_go (sm_ZZ X) sm_PP true (sm_callM X true (d + 15)) 107 49 [vP (15, 0), vI (Int32.ofNat o), vI t, vI (Int32.ofNat i), vU, vU, vU] [vI (Int32.ofNat op)] σ) (if t = 36 then pb (zN a) (fun _ a1 => pb (zProd T sub a1) (fun u a2 => if u = 36 then zSL T sub f 36 (zE a2 op 0 0 36 (T.2.2.2 (a_p a))) else .inl (4, a_p a))) else .inl (4, a_p a)) := by
      intro op x k1 hx6 hx7 hop
      have key : ∀ (y : Int32) (c : Bool), (y = 0 ↔ c = false) → (c = true ↔ t = 36) → SCI ci O T N (sm_go (sm_ZZ X) sm_PP true (sm_callM X true (d + 15)) 107 73 [vP (15, 0), vI (Int32.ofNat o), vI t, vI (Int32.ofNat i), vI (Int32.ofNat op), vI (σ.1 15 0 7), vU] [vI y, vI (σ.1 15 0 6), vP (15, 0)] σ) (if t = 36 then pb (zN a) (fun _ a1 => pb (zProd T sub a1) (fun u a2 => if u = 36 then zSL T sub f 36 (zE a2 op 0 0 36 (T.2.2.2 (a_p a))) else .inl (4, a_p a))) else .inl (4, a_p a)) := by
        intro y c hy hc
        rw [q_X5_readSum_73, if_pos rfl, PC_pl h, PC_k h, k1]
        have e0 : (if t = 36 then pb (zN a) (fun _ a1 => pb (zProd T sub a1) (fun u a2 => if u = 36 then zSL T sub f 36 (zE a2 op 0 0 36 (T.2.2.2 (a_p a))) else .inl (4, a_p a))) else .inl (4, a_p a) : zR) = pb (zFitT T x c a) (fun _ a1 => pb (zProd T sub a1) (fun u a2 => pb (if u = 36 then .inr (36, zE a2 op 0 0 36 (T.2.2.2 (a_p a))) else .inl (4, a_p a)) (fun t a => zSL T sub f t a))) := by
          rw [fit_pb k1]
          simp only [pb_if]
          by_cases q2 : t = 36
          · rw [if_pos q2, if_pos (hc.mpr q2)]
          · rw [if_neg q2, if_neg (fun z => q2 (hc.mp z))]
        rw [e0]
        refine cbVI (c_expectFit (d := d + 13) hT h hx6 hx7 hy) (fun _ a1 σ1 e1 h1 => ?_) (fun e σ F => ft_readSum_73_s2 F)
        unfold zFitT at e1; rw [it_l, it_l] at e1
        obtain ⟨-, -, e1⟩ := e1
        obtain ⟨n1, e1⟩ := zN_inr.mp e1
        have E1 : a1 = aP a (a_p a + 1) := congrArg Prod.snd e1
        have w1 : wN a1 = 0 := by rw [E1]; exact hw
        have b1 : zL a1 ≤ a_p a1 := by rw [E1]; show zL a ≤ a_p a + 1; omega
        have p1 : a_p a1 = a_p a + 1 := by rw [E1]; rfl
        have z1 : zL a1 = zL a := by rw [E1]; rfl
        have t1 : tyA a1 := by rw [E1]; exact hty
        have o1 : a_o a1 = o := by rw [E1]; exact hoa
        refine cbII (c_readProduct hT hD ho hs h1 o1 w1 b1 t1) (fun u a2 σ2 e2 h2 => ?_) (fun e y σ F => ft_readSum_73_s4 F)
        obtain ⟨⟨x1, x2, x3, x4⟩, w2⟩ := D_prod hD (PC_len h1) e2
        rw [wN_0 w2] at x4
        have W : wN a2 = 0 := wN_z w2
        have O : a_o a2 = o := x1.2.2.2.2.2.2.2.1.trans o1
        have TY : tyA a2 := tyA_eq x1 t1
        refine cbII (c_finish (d := d + 13) (op := op) (p0 := a_p a) h2 W (by omega) (by rcases hop with z | z <;> rw [z] <;> rfl) (by omega) (by omega) (by rcases hop with z | z <;> rw [z] <;> rfl) rfl) (fun t3 a3 σ3 e3 h3 => ?_) (fun e y σ F => ft_readSum_73_s6 F)
        rw [it_l] at e3
        obtain ⟨q3, e3⟩ := e3
        cases e3
        rw [i_s]
        refine c_SL hT hD ho hs f (i + 1) 36 _ σ3 _ _ _ h3 W O ?_ TY ?_ ?_
        · rw [zL_E]; show zL a2 + 1 ≤ a_p a2; omega
        · show i + 1 ≤ a_p a2; omega
        · show 801 ≤ f + a_p a2; omega
      rw [q_X5_readSum_49]
      by_cases q2 : t = 36
      · rw [if_pos q2]; exact key 1 true ⟨fun z => absurd z (by decide), fun z => (by cases z)⟩ ⟨fun _ => q2, fun _ => rfl⟩
      · rw [if_neg q2]; exact key 0 false ⟨fun _ => rfl, fun _ => rfl⟩ ⟨fun z => (by cases z), fun z => absurd z q2⟩
    by_cases k1 : T.1 (a_p a) = 43
    · rw [if_pos k1, if_pos k1, if_pos (Or.inl k1), if_pos k1]
      exact main 7 43 k1 (by decide) (by decide) (Or.inl rfl)
    · rw [if_neg k1]
      by_cases k2 : T.1 (a_p a) = 45
      · rw [if_pos k2, if_neg k1, if_pos (Or.inr k2), if_neg k1]
        exact main 8 45 k2 (by decide) (by decide) (Or.inr rfl)
      · rw [if_neg k2, if_neg (fun z => z.elim k1 k2)]
        exact ⟨σ, rfl, h⟩
theorem c_readSum {o : Nat} (hT : TK T N) (hD : SubD sub) (ho : o ≤ 10) (hs : o < 10 → HS X d ci O T N sub (o + 1)) (h : PC ci O T N a σ) (hoa : a_o a = o) (hw : wN a = 0) (hb : zL a ≤ a_p a) (hty : tyA a) : SCI ci O T N (sm_callM X true (d + 16) 107 [vP (15, 0), vI (Int32.ofNat o)] σ) (zSum T sub a) := by
  rw [f_X5_readSum, q_X5_readSum_0]
  unfold zSum
  refine cbII (c_readProduct hT hD ho hs h hoa hw hb hty) (fun t1 a1 σ1 e1 h1 => ?_) (fun e y σ F => ft_readSum_0_s2 F)
  obtain ⟨⟨x1, x2, x3, x4⟩, w1⟩ := D_prod hD (PC_len h) e1
  rw [wN_0 w1] at x4
  exact c_SL hT hD ho hs 801 0 t1 _ σ1 _ _ _ h1 (wN_z w1) (x1.2.2.2.2.2.2.2.1.trans hoa) (by omega) (tyA_eq x1 hty) (Nat.zero_le _) (by omega)
/-- an expression, given what is below -/
theorem c_readEx {o : Nat} (hT : TK T N) (hD : SubD sub) (hV : SubV sub) (ho : o ≤ 10) (hs : o < 10 → HS X d ci O T N sub (o + 1)) (h : PC ci O T N a σ) (hoa : a_o a = o) (hw : wN a = 0) (hb : zL a ≤ a_p a) (hty : tyA a) : SCI ci O T N (sm_callM X true (d + 17) 106 [vP (15, 0), vI (Int32.ofNat o)] σ) (zEx T sub a) := by
  rw [f_X5_readExpression, q_X5_readExpression_0]
  unfold zEx
  refine cbII (c_readSum hT hD ho hs h hoa hw hb hty) (fun t a1 σ1 e1 h1 => ?_) (fun e y σ F => ft_readExpression_0_s2 F)
  have V1 := V_sum hT hV (PC_len h) hty e1
  obtain ⟨⟨x1, x2, x3, x4⟩, w1⟩ := D_sum hD (PC_len h) e1
  rw [wN_0 w1] at x4
  have W1 : wN a1 = 0 := wN_z w1
  have O1 : a_o a1 = o := x1.2.2.2.2.2.2.2.1.trans hoa
  have TY1 : tyA a1 := tyA_eq x1 hty
  rw [PC_k h1]
  have main : ∀ x : Int32, T.1 (a_p a1) = x → (x = 1 ∨ x = 2 ∨ x = 60) → SCI ci O T N (sm_go (sm_ZZ X) sm_PP true (sm_callM X true (d + 16)) 106 29 [vP (15, 0), vI (Int32.ofNat o), vI t, vI x, vU, vU] [] σ1) (if t = 36 ∨ (x ≠ 60 ∧ cRef t = 1) then pb (zN a1) (fun _ a2 => pb (zSum T sub a2) (fun u a3 => if (if t = 36 then u = 36 else cRef u = 1) then .inr (36, zE a3 (if x = 60 then 12 else if x = 1 then 10 else 11) 0 0 36 (T.2.2.2 (a_p a1))) else .inl (4, a_p a1))) else .inl (4, a_p a1)) := by
    intro x hx hx3
    have key : ∀ (y : Int32) (c : Bool), (y = 0 ↔ c = false) → (c = true ↔ (t = 36 ∨ (x ≠ 60 ∧ cRef t = 1))) → SCI ci O T N (sm_go (sm_ZZ X) sm_PP true (sm_callM X true (d + 16)) 106 60 [vP (15, 0), vI (Int32.ofNat o), vI t, vI x, vI (σ1.1 15 0 7), vU] [vI y, vI x, vP (15, 0)] σ1) (if t = 36 ∨ (x ≠ 60 ∧ cRef t = 1) then pb (zN a1) (fun _ a2 => pb (zSum T sub a2) (fun u a3 => if (if t = 36 then u = 36 else cRef u = 1) then .inr (36, zE a3 (if x = 60 then 12 else if x = 1 then 10 else 11) 0 0 36 (T.2.2.2 (a_p a1))) else .inl (4, a_p a1))) else .inl (4, a_p a1)) := by
      intro y c hy hc
      rw [q_X5_readExpression_60, if_pos rfl, PC_pl h1]
      have e0 : (if t = 36 ∨ (x ≠ 60 ∧ cRef t = 1) then pb (zN a1) (fun _ a2 => pb (zSum T sub a2) (fun u a3 => if (if t = 36 then u = 36 else cRef u = 1) then .inr (36, zE a3 (if x = 60 then 12 else if x = 1 then 10 else 11) 0 0 36 (T.2.2.2 (a_p a1))) else .inl (4, a_p a1))) else .inl (4, a_p a1) : zR) = pb (zFitT T x c a1) (fun _ a2 => pb (zSum T sub a2) (fun u a3 => if (if t = 36 then u = 36 else cRef u = 1) then .inr (36, zE a3 (if x = 60 then 12 else if x = 1 then 10 else 11) 0 0 36 (T.2.2.2 (a_p a1))) else .inl (4, a_p a1))) := by
        rw [fit_pb hx]
        by_cases q2 : t = 36 ∨ (x ≠ 60 ∧ cRef t = 1)
        · rw [if_pos q2, if_pos (hc.mpr q2)]
        · rw [if_neg q2, if_neg (fun z => q2 (hc.mp z))]
      rw [e0]
      refine cbVI (c_expectFit (d := d + 14) hT h1 (by rcases hx3 with z | z | z <;> rw [z] <;> decide) (by rcases hx3 with z | z | z <;> rw [z] <;> decide) hy) (fun _ a2 σ2 e2 h2 => ?_) (fun e σ F => ft_readExpression_60_s2 F)
      unfold zFitT at e2; rw [it_l, it_l] at e2
      obtain ⟨-, -, e2⟩ := e2
      obtain ⟨n2, e2⟩ := zN_inr.mp e2
      have E2 : a2 = aP a1 (a_p a1 + 1) := congrArg Prod.snd e2
      have w2 : wN a2 = 0 := by rw [E2]; exact W1
      have z2 : zL a2 = zL a1 := by rw [E2]; rfl
      have p2 : a_p a2 = a_p a1 + 1 := by rw [E2]; rfl
      have t2 : tyA a2 := by rw [E2]; exact TY1
      have o2 : a_o a2 = o := by rw [E2]; exact O1
      refine cbII (c_readSum hT hD ho hs h2 o2 w2 (by omega) t2) (fun u a3 σ3 e3 h3 => ?_) (fun e y σ F => ft_readExpression_60_s4 F)
      obtain ⟨⟨g1, g2, g3, g4⟩, w3⟩ := D_sum hD (PC_len h2) e3
      rw [wN_0 w3] at g4
      have W3 : wN a3 = 0 := wN_z w3
      have fin : ∀ v1 v2 v5 : sm_V, SCI ci O T N (sm_go (sm_ZZ X) sm_PP true (sm_callM X true (d + 16)) 106 101 [vP (15, 0), v1, v2, vI x, vI (T.2.2.2 (a_p a1)), v5] [] σ3) (.inr (36, zE a3 (if x = 60 then 12 else if x = 1 then 10 else 11) 0 0 36 (T.2.2.2 (a_p a1)))) := by
        intro v1 v2 v5
        rw [q_X5_readExpression_101]
        by_cases r1 : x = 60
        · rw [if_pos r1, if_pos r1]
          exact emI (op := 12) (arg := 0) (ty := 36) (tgt := 0) h3 W3 (by omega) rfl (by decide) (Nat.zero_le _) rfl (cArg_n (by decide)) (fun σ4 h4 => ⟨_, rfl, h4⟩)
        · rw [if_neg r1, if_neg r1]
          by_cases r2 : x = 1
          · rw [if_pos r2, if_pos r2]
            exact emI (op := 10) (arg := 0) (ty := 36) (tgt := 0) h3 W3 (by omega) rfl (by decide) (Nat.zero_le _) rfl (cArg_n (by decide)) (fun σ4 h4 => ⟨_, rfl, h4⟩)
          · rw [if_neg r2, if_neg r2]
            exact emI (op := 11) (arg := 0) (ty := 36) (tgt := 0) h3 W3 (by omega) rfl (by decide) (Nat.zero_le _) rfl (cArg_n (by decide)) (fun σ4 h4 => ⟨_, rfl, h4⟩)
      by_cases q36 : t = 36
      · rw [if_pos q36]
        by_cases qu : u = 36
        · rw [if_pos qu, if_pos (by rw [if_pos q36]; exact qu)]
          exact fin _ _ _
        · rw [if_neg qu, if_neg (by rw [if_pos q36]; exact qu)]
          exact SCI_f (bindV (c_refuse h3 (by decide)) (fun σ F => fg_readExpression_101 F))
      · rw [if_neg q36, c_isReference, bI_r]
        rcases cRef_01 u with z | z
        · rw [z, if_pos rfl, if_neg (by rw [if_neg q36]; decide)]
          exact SCI_f (bindV (c_refuse h3 (by decide)) (fun σ F => fg_readExpression_101 F))
        · rw [z, if_neg (by decide), if_pos (by rw [if_neg q36])]
          exact fin _ _ _
    rw [q_X5_readExpression_29]
    have c38 : ¬ cRef 38 = 1 := by decide
    have c36 : ¬ (36 : Int32) = 38 := by decide
    by_cases r1 : t = 38
    · rw [if_pos r1]
      refine key 0 false ⟨fun _ => rfl, fun _ => rfl⟩ ⟨fun z => (by cases z), fun z => ?_⟩
      exfalso
      rcases z with z | z
      · exact c36 (z.symm.trans r1)
      · exact c38 (by rw [← r1]; exact z.2)
    · rw [if_neg r1]
      by_cases r2 : x = 60
      · rw [if_pos r2]
        by_cases r3 : t = 36
        · rw [if_pos r3]; exact key 1 true ⟨fun z => absurd z (by decide), fun z => (by cases z)⟩ ⟨fun _ => Or.inl r3, fun _ => rfl⟩
        · rw [if_neg r3]; exact key 0 false ⟨fun _ => rfl, fun _ => rfl⟩ ⟨fun z => (by cases z), fun z => (z.elim (fun w => absurd w r3) (fun w => absurd r2 w.1))⟩
      · rw [if_neg r2]
        refine key 1 true ⟨fun z => absurd z (by decide), fun z => (by cases z)⟩ ⟨fun _ => ?_, fun _ => rfl⟩
        rcases V1 with v | v | v
        · exact Or.inl v
        · exact absurd v r1
        · exact Or.inr ⟨r2, v⟩
  by_cases k1 : T.1 (a_p a1) = 1
  · rw [if_pos k1, if_pos (Or.inl k1)]
    exact main _ rfl (Or.inl k1)
  · rw [if_neg k1]
    by_cases k2 : T.1 (a_p a1) = 2
    · rw [if_pos k2, if_pos (Or.inr (Or.inl k2))]
      exact main _ rfl (Or.inr (Or.inl k2))
    · rw [if_neg k2]
      by_cases k3 : T.1 (a_p a1) = 60
      · rw [if_pos k3, if_pos (Or.inr (Or.inr k3))]
        exact main _ rfl (Or.inr (Or.inr k3))
      · rw [if_neg k3, if_neg (fun z => z.elim k1 (fun z => z.elim k2 k3))]
        exact ⟨σ1, rfl, h1⟩
/-- EXPRESSIONS, n levels -/
theorem c_X (hT : TK T N) : ∀ (n o : Nat), o + n = 11 → 1 ≤ n → HS X (d + 17 * n) ci O T N (zX_ T n) o
  | 0, o, h, h1 => by omega
  | n + 1, o, h, h1 => by
    intro e a σ hp hw ho hb hty
    have hsub : o < 10 → HS X (d + 17 * n + e) ci O T N (zX_ T n) (o + 1) := fun hlt => HS_le (c_X hT n (o + 1) (by omega) (by omega))
    have := c_readEx (X := X) (d := d + 17 * n + e) hT (D_X n) (V_X hT n) (by omega) hsub hp ho hw hb hty
    have e1 : d + 17 * n + e + 17 = d + 17 * (n + 1) + e := by omega
    rw [e1] at this
    exact this
end
