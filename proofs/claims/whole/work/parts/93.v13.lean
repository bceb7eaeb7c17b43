section
/-! THE CLASS READS PIECES OF EXPRESSIONS -/
variable {X : Nat × (Nat → Int32)} {d : Nat} {s σ : sm_S} {ci N : Nat} {O : Nat → Nat → Nat → Int32} {T : zT} {a b : zA} {t : Int32} {sub : zA → zR}
theorem PC_sh {x : Int32} (h : PC ci O T N a σ) : PC ci O T N a (sI σ 15 0 10 x) := ⟨PT_o h.1 (by omega) (by omega) (by omega) (by omega), PR_15 h.2 (by omega)⟩
theorem PC_S {n : Nat} (h : PC ci O T N a σ) : PC ci O T N (aS a n) σ := h
theorem zN_E {op : Nat} {arg ty pl : Int32} {tgt : Nat} : zN (zE a op arg tgt ty pl) = pb (zN a) (fun y a1 => .inr (y, zE a1 op arg tgt ty pl)) := by
  unfold zN
  show (if a_p a = 800 then _ else _) = _
  split <;> rfl
theorem zIW_w {op n : Nat} {arg ty pl : Int32} (ho : op = 5 ∨ op = 15 ∨ op = 17) (hw : wN a = 0) : zIW (aW (aS a n) (op, arg, pl, ty)) = zIW (zE a op arg 0 ty pl) := by
  have hw' : wN (zE a op arg 0 ty pl) = 0 := hw
  rw [zIW_0 hw']
  unfold zIW
  rw [show a_w (aW (aS a n) (op, arg, pl, ty)) = (op, arg, pl, ty) from rfl, if_pos ho]
  rfl
theorem PC_wait {op n : Nat} {arg ty pl : Int32} (h : PC ci O T N (zE a op arg 0 ty pl) σ) (ho : op = 5 ∨ op = 15 ∨ op = 17) (hw : wN a = 0) : PC ci O T N (aW (aS a n) (op, arg, pl, ty)) σ := by
  obtain ⟨h1, h2⟩ := h
  refine ⟨h1, ?_⟩
  unfold PR at h2 ⊢
  rw [zIW_w ho hw]
  exact h2
theorem wN_P {p : Nat} : wN (aP a p) = wN a := rfl
theorem zL_P {p : Nat} : zL (aP a p) = zL a := rfl
theorem cArg_n {l : List zI} {op tgt : Nat} {arg pl ty : Int32} {g : zG} (h : ¬ (op = 0 ∨ op = 26)) : arg = cArg l (op, arg, tgt, pl, ty, g) := by
  unfold cArg; rw [if_neg h]
theorem emV {op : Nat} {arg ty pl o g : Int32} {tgt : Nat} {k : Int32 → sm_S → sm_R} {z : zR} (h : PC ci O T N a σ) (hw : wN a = 0) (hl : zL a < 900) (hv : vC op = true) (h33 : ¬ op = 33) (ht : tgt ≤ zL a) (ho : o = Int32.ofNat (cOp op)) (hg : g = cArg (a_i a) (op, arg, tgt, pl, ty, gNow a)) (hk : ∀ σ', PC ci O T N (zE a op arg tgt ty pl) σ' → SCV ci O T N (k (Int32.ofNat (pos vC (a_i a) (zL a))) σ') z) : SCV ci O T N (if (σ.2.2.1 15 0 3).1 = 10 then (sm_bI (sm_callM X true (d + 1) 13 [vP (σ.2.2.1 15 0 3), vI o, vI g, vI pl] σ) sm_tw k) else none) z := by
  obtain ⟨σ1, e1, h1, -⟩ := c_em (X := X) (d := d) (arg := arg) (ty := ty) h hw hl hv h33 ht ho hg
  rw [if_cd h.2.2.2.2.1, PC_cd h, e1, bI_r]
  exact hk σ1 h1
theorem emI {op : Nat} {arg ty pl o g : Int32} {tgt : Nat} {k : Int32 → sm_S → sm_R} {z : zR} (h : PC ci O T N a σ) (hw : wN a = 0) (hl : zL a < 900) (hv : vC op = true) (h33 : ¬ op = 33) (ht : tgt ≤ zL a) (ho : o = Int32.ofNat (cOp op)) (hg : g = cArg (a_i a) (op, arg, tgt, pl, ty, gNow a)) (hk : ∀ σ', PC ci O T N (zE a op arg tgt ty pl) σ' → SCI ci O T N (k (Int32.ofNat (pos vC (a_i a) (zL a))) σ') z) : SCI ci O T N (if (σ.2.2.1 15 0 3).1 = 10 then (sm_bI (sm_callM X true (d + 1) 13 [vP (σ.2.2.1 15 0 3), vI o, vI g, vI pl] σ) sm_tw k) else none) z := by
  obtain ⟨σ1, e1, h1, -⟩ := c_em (X := X) (d := d) (arg := arg) (ty := ty) h hw hl hv h33 ht ho hg
  rw [if_cd h.2.2.2.2.1, PC_cd h, e1, bI_r]
  exact hk σ1 h1
theorem emU {op : Nat} {arg ty pl o g : Int32} {tgt : Nat} {k : Int32 → sm_S → sm_R} {z : zR} (h : PC ci O T N a σ) (hw : wN a = 0) (hl : zL a < 900) (hv : vC op = true) (h33 : ¬ op = 33) (ht : tgt ≤ zL a) (ho : o = Int32.ofNat (cOp op)) (hg : g = cArg (a_i a) (op, arg, tgt, pl, ty, gNow a)) (hk : ∀ σ', PC ci O T N (zE a op arg tgt ty pl) σ' → SCU ci O T N (k (Int32.ofNat (pos vC (a_i a) (zL a))) σ') z) : SCU ci O T N (if (σ.2.2.1 15 0 3).1 = 10 then (sm_bI (sm_callM X true (d + 1) 13 [vP (σ.2.2.1 15 0 3), vI o, vI g, vI pl] σ) sm_tw k) else none) z := by
  obtain ⟨σ1, e1, h1, -⟩ := c_em (X := X) (d := d) (arg := arg) (ty := ty) h hw hl hv h33 ht ho hg
  rw [if_cd h.2.2.2.2.1, PC_cd h, e1, bI_r]
  exact hk σ1 h1
/-- a number -/
theorem c_readNumber {f pl : Int32} {p0 : Nat} (hT : TK T N) (h : PC ci O T N a σ) (hw : wN a = 0) (hl : zL a < 900) (hs : a_s a = 0) (hpl : pl = T.2.2.2 p0) : SCU ci O T N (sm_callM X true (d + 3) 112 [vP (15, 0), vI f, vI pl] σ) (if T.1 (a_p a) = 4 then zNum T p0 (f * (T.2.2.1 (a_p a)).toInt32) a else .inl (1, a_p a)) := by
  subst hpl
  have e0 : (if T.1 (a_p a) = 4 then zNum T p0 (f * (T.2.2.1 (a_p a)).toInt32) a else .inl (1, a_p a) : zR) = pb (zMust T 4 a) (fun _ a1 => .inr (36, zE a1 4 (f * (T.2.2.1 (a_p a)).toInt32) 0 36 (T.2.2.2 p0))) := by
    unfold zNum zMust
    rw [zN_E, pb_pb]
    by_cases q : T.1 (a_p a) = 4
    · rw [if_pos q, if_pos q]; rfl
    · rw [if_neg q, if_neg q]; rfl
  rw [e0, f_X5_readNumber, q_X5_readNumber_0]
  refine cbVU (c_expect (d := d) hT h (by decide) (by decide)) (fun _ a1 σ1 e1 h1 => ?_) (fun e σ F => ft_readNumber_0_s2 F)
  obtain ⟨k4, n1, e1⟩ := zMust_inr.mp e1
  cases e1
  rw [PC_vl h (Or.inr k4)]
  refine emU (d := d + 1) (op := 4) (ty := 36) (tgt := 0) h1 hw hl rfl (by decide) (Nat.zero_le _) rfl (cArg_n (by decide)) (fun σ2 h2 => ?_)
  exact ⟨_, rfl, PC_sh h2, by rw [gI, if_pos ⟨rfl, rfl, rfl⟩]; show (4 : Int32) = csh (a_s a); rw [hs]; rfl⟩
/-- the value of a name -/
def zNmV (T : zT) (a : zA) : zR := match kFind (T.2.1 (a_p a)) (a_k a) with
  | none => .inl (2, a_p a)
  | some e => pb (zN a) (fun _ a1 => .inr (e.1, aW (aS a1 1) (5, Int32.ofNat e.2, T.2.2.2 (a_p a), e.1)))
theorem c_readName (hT : TK T N) (h : PC ci O T N a σ) (hw : wN a = 0) (hl : zL a < 900) (q : T.1 (a_p a) = 3) : SCU ci O T N (sm_callM X true (d + 2) 113 [vP (15, 0)] σ) (zNmV T a) := by
  have hn := hT.2.2.2.1 _ q
  rw [f_X5_readValueOfName, q_X5_readValueOfName_0, PC_nm h q, c_slotOf hn h, bI_r]
  unfold zNmV
  cases hk : kFind (T.2.1 (a_p a)) (a_k a) with
  | none =>
    rw [if_pos ((kSl_m h).mpr hk), PC_pl h]
    exact SCU_f (bindV (c_refuse h (by decide)) (fun σ F => fg_readValueOfName_26 F))
  | some e =>
    rw [if_neg (fun z => by rw [(kSl_m h).mp z] at hk; cases hk), q_X5_readValueOfName_26, PC_pl h]
    have hsl : kSl (T.2.1 (a_p a)) (a_k a) = Int32.ofNat e.2 := by unfold kSl; rw [hk]
    rw [hsl]
    refine emU (d := d) (op := 5) (ty := e.1) (tgt := 0) h hw hl rfl (by decide) (Nat.zero_le _) rfl (cArg_n (by decide)) (fun σ1 h1 => ?_)
    have hz : pb (zN a) (fun _ a1 => .inr (e.1, aW (aS a1 1) (5, Int32.ofNat e.2, T.2.2.2 (a_p a), e.1))) = pb (zN (zE a 5 (Int32.ofNat e.2) 0 e.1 (T.2.2.2 (a_p a)))) (fun _ a1 => .inr (e.1, aW (aS (aP a (a_p a1)) 1) (5, Int32.ofNat e.2, T.2.2.2 (a_p a), e.1))) := by
      rw [zN_E, pb_pb]
      unfold zN
      split <;> rfl
    show SCU ci O T N _ (pb (zN a) _)
    rw [hz]
    refine cbVU (c_pass (d := d) hT h1 (by show T.1 (a_p a) ≠ 6; rw [q]; decide) (by show T.1 (a_p a) ≠ 7; rw [q]; decide)) (fun _ a1 σ2 e2 h2 => ?_) (fun e σ F => ft_readValueOfName_26_s4 F)
    obtain ⟨n1, e2⟩ := zN_inr.mp e2
    cases e2
    rw [c_typeOf (n := T.2.1 (a_p a)) (e := e) (a := aP (zE a 5 (Int32.ofNat e.2) 0 e.1 (T.2.2.2 (a_p a))) (a_p a + 1)) (PC_sh h2) (kFind_m hk), bI_r]
    refine ⟨_, rfl, PC_sh ?_, by rw [gI, if_pos ⟨rfl, rfl, rfl⟩]; rfl⟩
    exact PC_wait (a := aP a (a_p a + 1)) h2 (Or.inl rfl) hw
/-- what is below, n begun -/
def HS (X : Nat × (Nat → Int32)) (d ci : Nat) (O : Nat → Nat → Nat → Int32) (T : zT) (N : Nat) (sub : zA → zR) (o : Nat) : Prop := ∀ e a σ, PC ci O T N a σ → wN a = 0 → a_o a = o → zL a ≤ a_p a → tyA a → SCI ci O T N (sm_callM X true (d + e) 106 [vP (15, 0), vI (Int32.ofNat o)] σ) (sub a)
theorem HS_le {o n : Nat} (h : HS X d ci O T N sub o) : HS X (d + n) ci O T N sub o := fun e a σ => by
  rw [Nat.add_assoc]; exact h (n + e) a σ
theorem len_p (h : PC ci O T N a σ) (hb : zL a ≤ a_p a) : zL a < 900 := by
  have := h.1.1; omega
/-- X [ E ] -/
theorem c_readIndex (hT : TK T N) (hD : SubD sub) (h : PC ci O T N a σ) (hk : T.1 (a_p a) = 91) (ho : a_o a ≤ 10) (hs : a_o a < 10 → HS X d ci O T N sub (a_o a + 1)) (hb : nW a ≤ a_p a) (hty : tyA a) : SCU ci O T N (sm_callM X true (d + 11) 117 [vP (15, 0), vI t, vI (Int32.ofNat (a_o a))] σ) (zIdx T sub t a) := by
  have hr := PC_reads h
  have hP := p_reads (a := a)
  rw [f_X5_readIndex, q_X5_readIndex_0]
  unfold zIdx
  refine cbVU (c_expectOpening (d := d + 8) (a := zReads a) (n := a_o a) hT hr (by decide) (by decide) (eqx_reads (a := a)).2.2.2.2.2.2.2.1 ho) (fun _ a1 σ1 e1 h1 => ?_) (fun e σ F => ft_readIndex_0_s2 F)
  obtain ⟨c1, n1, e1⟩ := zOpens_inr.mp e1
  have hoa : a_o (zReads a) = a_o a := (eqx_reads (a := a)).2.2.2.2.2.2.2.1
  have hsub := hs (by rw [← hoa]; exact c1.2)
  have E1 : a1 = aP (aO (zReads a) (a_o (zReads a) + 1)) (a_p (zReads a) + 1) := congrArg Prod.snd e1
  have o1 : a_o a1 = a_o a + 1 := by rw [E1]; show a_o (zReads a) + 1 = _; rw [hoa]
  have b1 : zL a1 ≤ a_p a1 := by
    rw [E1]; show zL (zReads a) ≤ a_p (zReads a) + 1
    rw [nW_reads.1, hP]; omega
  have t1 : tyA a1 := by
    rw [E1]; exact (show tyA (zReads a) from tyA_eq (eqx_reads (a := a)) hty)
  have p1 : a_p a1 ≤ 800 := h1.1.1
  rw [i_s]
  have w1 : wN a1 = 0 := by rw [E1]; exact wN_z (b := zReads a) (by rw [w_reads])
  refine cbIU (hsub 10 a1 σ1 h1 w1 o1 b1 t1) (fun u a2 σ2 e2 h2 => ?_) (fun e y σ F => ft_readIndex_0_s4 F)
  obtain ⟨d2, w2⟩ := hD a1 u a2 p1 e2
  rw [c_isRow, bI_r]
  have key : ∀ (y : Int32) (c : Bool), (y = 0 ↔ c = false) → (c = true ↔ ((¬ t < 18 ∧ t < 36) ∧ u = 36)) → SCU ci O T N (sm_go (sm_ZZ X) sm_PP true (sm_callM X true (d + 10)) 117 43 [vP (15, 0), vI t, vI (Int32.ofNat (a_o a)), vI (σ.1 15 0 7), vI u] [vI y, vI 93, vP (15, 0)] σ2) (if T.1 (a_p a2) = 93 then (if (¬ t < 18 ∧ t < 36) ∧ u = 36 then pb (zN (aO a2 (a_o a2 - 1))) (fun _ a3 => .inr (t - 18, aW (aS a3 2) (15, 0, T.2.2.2 (a_p a), t - 18))) else .inl (4, a_p a2)) else .inl (1, a_p a2)) := by
    intro y c hy hc
    rw [q_X5_readIndex_43, if_pos rfl, PC_pl h]
    have e0 : (if T.1 (a_p a2) = 93 then (if (¬ t < 18 ∧ t < 36) ∧ u = 36 then pb (zN (aO a2 (a_o a2 - 1))) (fun _ a3 => .inr (t - 18, aW (aS a3 2) (15, 0, T.2.2.2 (a_p a), t - 18))) else .inl (4, a_p a2)) else .inl (1, a_p a2) : zR) = pb (zFitT T 93 c (aO a2 (a_o a2 - 1))) (fun _ a3 => .inr (t - 18, aW (aS a3 2) (15, 0, T.2.2.2 (a_p a), t - 18))) := by
      unfold zFitT
      show _ = pb (if T.1 (a_p a2) = 93 then _ else _) _
      by_cases q : T.1 (a_p a2) = 93
      · rw [if_pos q, if_pos q]
        by_cases q2 : (¬ t < 18 ∧ t < 36) ∧ u = 36
        · rw [if_pos q2, if_pos (hc.mpr q2)]
        · rw [if_neg q2, if_neg (fun z => q2 (hc.mp z))]; rfl
      · rw [if_neg q, if_neg q]; rfl
    rw [e0]
    refine cbVU (c_expectFit (d := d + 8) (a := aO a2 (a_o a2 - 1)) hT h2 (by decide) (by decide) hy) (fun _ a3 σ3 e3 h3 => ?_) (fun e σ F => ft_readIndex_43_s2 F)
    have hw3 : wN a3 = 0 := by
      unfold zFitT at e3; rw [it_l, it_l] at e3
      obtain ⟨-, -, e3⟩ := e3
      obtain ⟨-, e3⟩ := zN_inr.mp e3
      cases e3
      exact wN_z (b := a2) w2
    have hl3 : zL a3 < 900 := by
      unfold zFitT at e3; rw [it_l, it_l] at e3
      obtain ⟨-, -, e3⟩ := e3
      obtain ⟨-, e3⟩ := zN_inr.mp e3
      cases e3
      obtain ⟨-, g2, g3, g4⟩ := d2
      rw [wN_0 w2] at g4
      show zL a2 < 900
      omega
    refine emU (op := 15) (ty := t - 18) (tgt := 0) h3 hw3 hl3 rfl (by decide) (Nat.zero_le _) rfl (cArg_n (by decide)) (fun σ4 h4 => ?_)
    exact ⟨_, rfl, PC_sh (PC_wait h4 (Or.inr (Or.inl rfl)) hw3), by rw [gI, if_pos ⟨rfl, rfl, rfl⟩]; rfl⟩
  by_cases r1 : t < 18
  · rw [if_pos r1, if_pos rfl]
    exact key 0 false ⟨fun _ => rfl, fun _ => rfl⟩ ⟨fun z => (by cases z), fun z => absurd r1 z.1.1⟩
  · rw [if_neg r1]
    by_cases r2 : t < 36
    · rw [if_pos r2, if_neg (by decide)]
      by_cases r3 : u = 36
      · rw [if_pos r3]
        exact key 1 true ⟨fun z => absurd z (by decide), fun z => (by cases z)⟩ ⟨fun _ => ⟨⟨r1, r2⟩, r3⟩, fun _ => rfl⟩
      · rw [if_neg r3]
        exact key 0 false ⟨fun _ => rfl, fun _ => rfl⟩ ⟨fun z => (by cases z), fun z => absurd z.2 r3⟩
    · rw [if_neg r2, if_pos rfl]
      exact key 0 false ⟨fun _ => rfl, fun _ => rfl⟩ ⟨fun z => (by cases z), fun z => absurd z.1.2 r2⟩
theorem own_d : ∀ n, n < 9 → (sm_tb 4).getD n 0 = fOwn (Int32.ofNat n) := by decide +kernel
theorem fields_d (n : List Int32) : whr n sm_fields 0 = -1 ∨ ∃ i, i < 9 ∧ whr n sm_fields 0 = Int32.ofNat i := by
  have w : sm_fields = [sm_by 45, sm_by 46, sm_by 47, sm_by 48, sm_by 49, sm_by 50, sm_by 51, sm_by 52, sm_by 53] := rfl
  rw [w]
  simp only [whr]
  by_cases h0 : sm_by 45 = n
  · rw [if_pos h0]; exact Or.inr ⟨0, by omega, rfl⟩
  rw [if_neg h0]
  by_cases h1 : sm_by 46 = n
  · rw [if_pos h1]; exact Or.inr ⟨1, by omega, rfl⟩
  rw [if_neg h1]
  by_cases h2 : sm_by 47 = n
  · rw [if_pos h2]; exact Or.inr ⟨2, by omega, rfl⟩
  rw [if_neg h2]
  by_cases h3 : sm_by 48 = n
  · rw [if_pos h3]; exact Or.inr ⟨3, by omega, rfl⟩
  rw [if_neg h3]
  by_cases h4 : sm_by 49 = n
  · rw [if_pos h4]; exact Or.inr ⟨4, by omega, rfl⟩
  rw [if_neg h4]
  by_cases h5 : sm_by 50 = n
  · rw [if_pos h5]; exact Or.inr ⟨5, by omega, rfl⟩
  rw [if_neg h5]
  by_cases h6 : sm_by 51 = n
  · rw [if_pos h6]; exact Or.inr ⟨6, by omega, rfl⟩
  rw [if_neg h6]
  by_cases h7 : sm_by 52 = n
  · rw [if_pos h7]; exact Or.inr ⟨7, by omega, rfl⟩
  rw [if_neg h7]
  by_cases h8 : sm_by 53 = n
  · rw [if_pos h8]; exact Or.inr ⟨8, by omega, rfl⟩
  rw [if_neg h8]
  exact Or.inl rfl
/-- .FIELD, .size -/
theorem c_readMember (hT : TK T N) (h : PC ci O T N a σ) (hk : T.1 (a_p a) = 46) (hb : nW a ≤ a_p a) : SCU ci O T N (sm_callM X true (d + 11) 118 [vP (15, 0), vI t] σ) (zMem T t a) := by
  have hr := PC_reads h
  have hP := p_reads (a := a)
  have hL := (nW_reads (a := a)).1
  have hW : wN (zReads a) = 0 := wN_z (by rw [w_reads])
  rw [f_X5_readMember, q_X5_readMember_0]
  unfold zMem
  generalize zReads a = a0 at *
  refine cbVU (c_pass (d := d + 9) hT hr (by rw [hP, hk]; decide) (by rw [hP, hk]; decide)) (fun _ a1 σ1 e1 h1 => ?_) (fun e σ F => ft_readMember_0_s2 F)
  obtain ⟨n1, e1⟩ := zN_inr.mp e1
  have E1 : a1 = aP a0 (a_p a0 + 1) := congrArg Prod.snd e1
  have w1 : wN a1 = 0 := by rw [E1]; exact hW
  have l1 : zL a1 < 900 := by rw [E1]; show zL a0 < 900; have := h.1.1; omega
  rw [PC_k h1]
  by_cases q : T.1 (a_p a1) = 214
  · rw [if_pos q, if_pos q, c_isRow, bI_r, PC_pl h1]
    have e0 : (if ¬ t < 18 ∧ t < 36 then pb (zN (zE a1 19 0 0 36 (T.2.2.2 (a_p a1)))) (fun _ a2 => .inr (36, aS a2 0)) else .inl (4, a_p a1) : zR) = pb (zFitT T 214 (decide (¬ t < 18 ∧ t < 36)) a1) (fun _ a2 => .inr (36, aS (zE a2 19 0 0 36 (T.2.2.2 (a_p a1))) 0)) := by
      unfold zFitT
      rw [if_pos q, zN_E, pb_pb]
      by_cases q2 : ¬ t < 18 ∧ t < 36
      · rw [if_pos q2, if_pos (decide_eq_true q2)]; rfl
      · rw [if_neg q2, if_neg (fun z => q2 (of_decide_eq_true z))]; rfl
    rw [e0]
    refine cbVU (c_expectFit (d := d + 8) hT h1 (by decide) (by decide) ?_) (fun _ a2 σ2 e2 h2 => ?_) (fun e σ F => ft_readMember_0_s6 F)
    · by_cases r1 : t < 18
      · rw [if_pos r1, decide_eq_false (fun z => z.1 r1)]; exact ⟨fun _ => rfl, fun _ => rfl⟩
      · rw [if_neg r1]
        by_cases r2 : t < 36
        · rw [if_pos r2, decide_eq_true ⟨r1, r2⟩]; exact ⟨fun z => absurd z (by decide), fun z => (by cases z)⟩
        · rw [if_neg r2, decide_eq_false (fun z => r2 z.2)]; exact ⟨fun _ => rfl, fun _ => rfl⟩
    · unfold zFitT at e2; rw [it_l, it_l] at e2
      obtain ⟨-, -, e2⟩ := e2
      obtain ⟨-, e2⟩ := zN_inr.mp e2
      cases e2
      refine emU (op := 19) (ty := 36) (tgt := 0) h2 w1 l1 rfl (by decide) (Nat.zero_le _) rfl (cArg_n (by decide)) (fun σ4 h4 => ?_)
      exact ⟨_, rfl, PC_sh h4, by rw [gI, if_pos ⟨rfl, rfl, rfl⟩]; rfl⟩
  · rw [if_neg q, if_neg q]
    by_cases q3 : T.1 (a_p a1) = 3
    · have hn := hT.2.2.2.1 _ q3
      rw [PC_nm h1 q3, c_fields hn, bI_r, PC_k h1, if_pos q3, if_pos q3]
      rcases fields_d (T.2.1 (a_p a1)) with hf | ⟨i, hi, hf⟩
      · rw [hf, if_pos (by decide), if_pos rfl, PC_pl h1]
        exact SCU_f (bindV (c_refuse h1 (by decide)) (fun σ F => fg_readMember_131 F))
      · have nn : ∀ i : Nat, i < 100 → ¬ Int32.ofNat i = -1 := by decide
        rw [hf, if_neg (i_nn (by omega)), if_neg (nn i (by omega)), if_pos (show Int32.ofNat i < Int32.ofNat (sm_tb 4).length from (i_lt (by omega) (by decide)).mpr hi), ix_nat (show i < (sm_tb 4).length from hi) (by decide), own_d i hi, c_fits, bI_r, PC_pl h1]
        have e0 : (if cFit t (fOwn (Int32.ofNat i)) = 1 then pb (zN a1) (fun _ a2 => .inr (if Int32.ofNat i = 1 then 0 else 36, aW (aS a2 3) (17, Int32.ofNat i, T.2.2.2 (a_p a1), if Int32.ofNat i = 1 then 0 else 36))) else .inl (4, a_p a1) : zR) = pb (zFitT T 3 (decide (cFit t (fOwn (Int32.ofNat i)) = 1)) a1) (fun _ a2 => .inr (if Int32.ofNat i = 1 then 0 else 36, aW (aS a2 3) (17, Int32.ofNat i, T.2.2.2 (a_p a1), if Int32.ofNat i = 1 then 0 else 36))) := by
          unfold zFitT
          rw [if_pos q3]
          by_cases q2 : cFit t (fOwn (Int32.ofNat i)) = 1
          · rw [if_pos q2, if_pos (decide_eq_true q2)]
          · rw [if_neg q2, if_neg (fun z => q2 (of_decide_eq_true z))]; rfl
        rw [e0]
        refine cbVU (c_expectFit (d := d + 8) hT h1 (by decide) (by decide) ?_) (fun _ a2 σ2 e2 h2 => ?_) (fun e σ F => ft_readMember_0_s17 F)
        · have c01 : cFit t (fOwn (Int32.ofNat i)) = 0 ∨ cFit t (fOwn (Int32.ofNat i)) = 1 := by
            unfold cFit
            split
            · exact cRef_01 _
            · split
              · split <;> simp
              · exact cBel_01 _ _
          rcases c01 with z | z
          · rw [z]; exact ⟨fun _ => rfl, fun _ => rfl⟩
          · rw [z]; exact ⟨fun w => absurd w (by decide), fun w => by cases w⟩
        · unfold zFitT at e2; rw [it_l, it_l] at e2
          obtain ⟨-, -, e2⟩ := e2
          obtain ⟨-, e2⟩ := zN_inr.mp e2
          cases e2
          refine emU (op := 17) (ty := if Int32.ofNat i = 1 then 0 else 36) (tgt := 0) h2 w1 l1 rfl (by decide) (Nat.zero_le _) rfl (cArg_n (by decide)) (fun σ4 h4 => ?_)
          rw [q_X5_readMember_131]
          have hW4 := PC_wait (n := 3) h4 (Or.inr (Or.inr rfl)) w1
          have hsh : (sI σ4 15 0 10 3).1 15 0 10 = csh 3 := by rw [gI, if_pos ⟨rfl, rfl, rfl⟩]; rfl
          by_cases q9 : Int32.ofNat i = 1
          · rw [if_pos q9, if_pos q9]
            rw [if_pos q9] at hW4
            exact ⟨_, rfl, PC_sh hW4, hsh⟩
          · rw [if_neg q9, if_neg q9]
            rw [if_neg q9] at hW4
            exact ⟨_, rfl, PC_sh hW4, hsh⟩
    · rw [c_indexIn (by decide), bI_r, PC_k h1, if_neg q3, if_neg q3, PC_pl h1]
      exact SCU_f (bindV (c_refuse h1 (by decide)) (fun σ F => fg_readMember_131 F))
end
