section
/-! THE CLASS READS STATEMENTS -/
variable {X : Nat × (Nat → Int32)} {d : Nat} {s σ : sm_S} {ci N : Nat} {O : Nat → Nat → Nat → Int32} {T : zT} {a b : zA} {t : Int32} {blk : zA → zR}
theorem pos_rep {l : List zI} {v : Nat → Bool} {e e' : zI} {k : Nat} (h : e'.1 = e.1) : pos v (l ++ [e']) k = pos v (l ++ [e]) k := by
  by_cases q : k ≤ l.length
  · rw [pos_app q, pos_app q]
  · rw [pos_ge (l := l ++ [e']) (by rw [List.length_append]; show l.length + 1 ≤ k; omega), pos_ge (l := l ++ [e]) (by rw [List.length_append]; show l.length + 1 ≤ k; omega), pos_L, pos_L, h]
theorem ctr_rep {l : List zI} {e e' : zI} {h : List Nat} (q : e'.1 = e.1) : ctr (l ++ [e']) h = ctr (l ++ [e]) h := by
  cases h with
  | nil => rfl
  | cons k r => show Int32.ofNat (pos vT (l ++ [e']) k) = Int32.ofNat (pos vT (l ++ [e]) k); rw [pos_rep q]
theorem CV_g {l : List zI} {ct h : List Nat} {e e' : zI} (q : CV (l ++ [e]) ct h ci σ) (h1 : e'.1 = e.1) (h2 : e'.2.1 = e.2.1) (h3 : e'.2.2.1 = e.2.2.1) (h4 : e'.2.2.2.1 = e.2.2.2.1) (h5 : i_h e' = i_h e) : CV (l ++ [e']) ct h ci σ := by
  obtain ⟨a1, a2, a3, a4, a5, a6, a7⟩ := q
  have hl : (l ++ [e']).length = (l ++ [e]).length := by rw [List.length_append, List.length_append]; rfl
  refine ⟨by rw [hl, pos_rep h1]; exact a1, fun k x hk hx => ?_, a3, fun j t hj => by rw [pos_rep h1]; exact a4 j t hj, by rw [ctr_rep h1]; exact a5, by rw [hl, pos_rep h1]; exact a6, ?_⟩
  · rw [pos_rep h1, ctr_rep h1]
    rcases Nat.lt_or_ge k l.length with z | z
    · rw [List.getElem?_append_left z] at hk
      have := a2 k x (by rw [List.getElem?_append_left z]; exact hk) hx
      obtain ⟨b1, b2, b3, b4⟩ := this
      exact ⟨b1, by unfold cArg at b2 ⊢; rw [pos_rep h1]; exact b2, b3, b4⟩
    · have hz := (List.getElem?_eq_some_iff.mp hk).1
      rw [List.length_append] at hz
      have hz : k < l.length + 1 := hz
      have hk2 : k = l.length := by omega
      subst hk2
      have hx2 : x = e' := by simp at hk; exact hk.symm
      subst hx2
      obtain ⟨b1, b2, b3, b4⟩ := a2 l.length e (by simp) (by rw [← h1]; exact hx)
      refine ⟨by rw [h1]; exact b1, ?_, by rw [h4]; exact b3, by rw [h5]; exact b4⟩
      unfold cArg at b2 ⊢
      rw [h1, h2, h3, pos_rep h1]; exact b2
  · obtain ⟨g1, g2, g3⟩ := a7
    unfold okL
    rw [hl]
    refine ⟨fun x hx => ?_, g2, g3⟩
    rcases List.mem_append.mp hx with z | z
    · exact g1 x (List.mem_append_left _ z)
    · rcases List.mem_singleton.mp z with rfl
      obtain ⟨o1, o2⟩ := g1 e (List.mem_append_right _ List.mem_cons_self)
      exact ⟨by rw [h3]; exact o1, by rw [h5]; exact o2⟩
theorem PQ_g {l : List zI} {ps : List zP} {e e' : zI} (q : PQ (l ++ [e]) ps ci σ) (h1 : e'.1 = e.1) : PQ (l ++ [e']) ps ci σ := by
  obtain ⟨a1, a2, a3, a4⟩ := q
  refine ⟨a1, a2, a3, fun i q hi => ?_⟩
  obtain ⟨b1, b2, b3, b4, b⟩ := a4 i q hi
  exact ⟨b1, b2, by rw [List.length_append] at b3 ⊢; exact b3, by rw [pos_rep h1]; exact b4, b⟩
def tyQ (a : zA) : Prop := ∀ q ∈ a_q a, tyOk q.2.1 ∧ ∀ t ∈ q.2.2.1, tyOk t
theorem tyA_of (h : In0 tyOk a) (k : tyQ a) : tyA a := ⟨h.2.2.2.2.2, k⟩
theorem PT_ty (hT : TK T N) : PT_ T tyOk := ⟨Or.inl rfl, fun _ _ _ h => V_ty hT h⟩
/-- at a statement -/
def SH (ci : Nat) (O : Nat → Nat → Nat → Int32) (T : zT) (N : Nat) (a : zA) (σ : sm_S) : Prop := PC ci O T N a σ ∧ In0 tyOk a ∧ zL a ≤ a_p a ∧ tyQ a ∧ a_q a ≠ []
theorem Exp_b {u : Int32} {a1 a2 : zA} (hp : a_p a1 ≤ 800) (hb : zL a1 ≤ a_p a1) (e : zExp T a1 = .inr (u, a2)) : wN a2 = 0 ∧ zL a2 ≤ a_p a2 ∧ zL a2 < 900 ∧ a_p a1 < a_p a2 ∧ a_q a2 = a_q a1 ∧ a_m a2 = a_m a1 ∧ a_x a2 = a_x a1 ∧ a_k a2 = a_k a1 ∧ zL a2 + a_p a1 ≤ zL a1 + a_p a2 := by
  obtain ⟨⟨x1, x2, x3, x4⟩, w2⟩ := D_Exp hp e
  rw [wN_0 w2] at x4
  exact ⟨wN_z w2, by omega, by omega, x2, x1.2.2.2.1, x1.2.1, x1.2.2.1, x1.1, x4⟩
theorem emV' {op : Nat} {arg ty pl o g : Int32} {tgt : Nat} {y : Int32} (h : PC ci O T N a σ) (hw : wN a = 0) (hl : zL a < 900) (hv : vC op = true) (h33 : ¬ op = 33) (ht : tgt ≤ zL a) (ho : o = Int32.ofNat (cOp op)) (hg : g = cArg (a_i a) (op, arg, tgt, pl, ty, gNow a)) : SCV ci O T N (if (σ.2.2.1 15 0 3).1 = 10 then (sm_bI (sm_callM X true (d + 1) 13 [vP (σ.2.2.1 15 0 3), vI o, vI g, vI pl] σ) sm_tw (fun _ s => some (some none, s))) else none) (.inr (y, zE a op arg tgt ty pl)) :=
  emV h hw hl hv h33 ht ho hg (fun σ1 h1 => ⟨_, rfl, h1⟩)
theorem fit_e {x : Int32} {c : Bool} {P : Prop} [Decidable P] {k : Int32 → zA → zR} (hc : c = true ↔ P) : (if T.1 (a_p a) = x then (if P then pb (zN a) k else .inl (4, a_p a)) else .inl (1, a_p a) : zR) = pb (zFitT T x c a) k := by
  unfold zFitT
  by_cases q : T.1 (a_p a) = x
  · rw [if_pos q, if_pos q]
    by_cases q2 : P
    · rw [if_pos q2, if_pos (hc.mpr q2)]
    · rw [if_neg q2, if_neg (fun z => q2 (hc.mp z))]; rfl
  · rw [if_neg q, if_neg q]; rfl
theorem fit_inr {x : Int32} {c : Bool} {y : Int32 × zA} (h : zFitT T x c a = .inr y) : c = true ∧ a_p a ≠ 800 ∧ y = (0, aP a (a_p a + 1)) := by
  unfold zFitT at h; rw [it_l, it_l] at h
  obtain ⟨-, h1, h2⟩ := h
  exact ⟨h1, zN_inr.mp h2⟩
/-- return -/
theorem c_readReturn (hT : TK T N) (hE : HS X d ci O T N (zX_ T 11) 0) (hS : SH ci O T N a σ) (hk : T.1 (a_p a) = 207) (ho : a_o a = 0) : SCV ci O T N (sm_callM X true (d + 21) 103 [vP (15, 0)] σ) (zRet T a) := by
  obtain ⟨h, hi, hb, hq, hne⟩ := hS
  have hty := tyA_of hi hq
  have hw := hi.1
  have h12 := h.2.2.1.2.1
  have hg := c_given (X := X) (d := d + 18) h (cIx_last hne)
  rw [qGiv_last hne h12] at hg
  have hg : sm_callM X true (d + 20) 10 [vP (10, ci), vI (Int32.ofNat (4 + (a_q a).length))] σ = rI (gNow a).2.2.1 σ := hg
  rw [f_X5_readReturn, q_X5_readReturn_0, if_cd h.2.2.2.2.1, PC_cd h, h.2.2.2.2.2 hne, hg, bI_r, PC_pl h]
  unfold zRet
  refine cbVV (c_pass (d := d + 19) hT h (by rw [hk]; decide) (by rw [hk]; decide)) (fun _ a1 σ1 e1 h1 => ?_) (fun e σ F => ft_readReturn_0_s4 F)
  obtain ⟨n1, e1⟩ := zN_inr.mp e1
  have E1 : a1 = aP a (a_p a + 1) := congrArg Prod.snd e1
  have w1 : wN a1 = 0 := by rw [E1]; exact hw
  have z1 : zL a1 = zL a := by rw [E1]; rfl
  have p1 : a_p a1 = a_p a + 1 := by rw [E1]; rfl
  have t1 : tyA a1 := by rw [E1]; exact hty
  have o1 : a_o a1 = 0 := by rw [E1]; exact ho
  rw [PC_k h1]
  by_cases k1 : T.1 (a_p a1) = 59
  · rw [if_pos k1, if_pos k1]
    have main : ∀ (y : Int32) (c : Bool), (y = 0 ↔ c = false) → SCV ci O T N (sm_bV (sm_callM X true (d + 20) 85 [vP (15, 0), vI 59, vI y] σ1) sm_tw fun s6 => if (s6.2.2.1 15 0 3).1 = 10 then (sm_bI (sm_callM X true (d + 20) 13 [vP (s6.2.2.1 15 0 3), vI 24, vI 0, vI (T.2.2.2 (a_p a))] s6) sm_tw fun _ s8 => some (some none, s8)) else none) (if c = true then pb (zN a1) (fun _ a2 => .inr (0, zE a2 24 0 0 0 (T.2.2.2 (a_p a)))) else .inl (4, a_p a1)) := by
      intro y c hy
      rw [← fit_pb k1]
      refine cbVV (c_expectFit (d := d + 18) hT h1 (by decide) (by decide) hy) (fun _ a2 σ2 e2 h2 => ?_) (fun e σ F => ft_readReturn_0_s6 F)
      obtain ⟨-, n2, e2⟩ := fit_inr e2
      have E2 : a2 = aP a1 (a_p a1 + 1) := congrArg Prod.snd e2
      have w2 : wN a2 = 0 := by rw [E2]; exact w1
      have l2 : zL a2 < 900 := by rw [E2]; show zL a1 < 900; have := PC_len h1; omega
      exact emV' (op := 24) (tgt := 0) h2 w2 l2 rfl (by decide) (Nat.zero_le _) rfl (cArg_n (by decide))
    by_cases q : (gNow a).2.2.1 = 38
    · rw [if_pos q, if_pos q]
      exact main 1 true ⟨fun z => absurd z (by decide), fun z => (by cases z)⟩
    · rw [if_neg q, if_neg q]
      exact main 0 false ⟨fun _ => rfl, fun _ => rfl⟩
  · rw [if_neg k1, if_neg k1]
    refine cbIV (hE 20 a1 σ1 h1 w1 o1 (by omega) t1) (fun u a2 σ2 e2 h2 => ?_) (fun e y σ F => ft_readReturn_0_s14 F)
    obtain ⟨w2, b2, l2, lt2, q2, -⟩ := Exp_b (PC_len h1) (by omega) e2
    have hc : decide (cFit u (gNow a).2.2.1 = 1) = true ↔ ((gNow a).2.2.1 ≠ 38 ∧ cFit u (gNow a).2.2.1 = 1) := by
      rw [decide_eq_true_iff]
      refine ⟨fun z => ⟨fun w => ?_, z⟩, fun z => z.2⟩
      rw [w] at z
      exact cFit_38 u z
    rw [c_fits, bI_r, fit_e hc]
    refine cbVV (c_expectFit (d := d + 18) hT h2 (by decide) (by decide) (cFit_b _ _)) (fun _ a3 σ3 e3 h3 => ?_) (fun e σ F => ft_readReturn_0_s18 F)
    obtain ⟨-, n3, e3⟩ := fit_inr e3
    have E3 : a3 = aP a2 (a_p a2 + 1) := congrArg Prod.snd e3
    have w3 : wN a3 = 0 := by rw [E3]; exact w2
    have l3 : zL a3 < 900 := by rw [E3]; exact l2
    exact emV' (op := 24) (tgt := 0) h3 w3 l3 rfl (by decide) (Nat.zero_le _) rfl (cArg_n (by decide))
/-- say -/
theorem c_readSay (hT : TK T N) (hE : HS X d ci O T N (zX_ T 11) 0) (hS : SH ci O T N a σ) (hk : T.1 (a_p a) = 208) (ho : a_o a = 0) : SCV ci O T N (sm_callM X true (d + 21) 104 [vP (15, 0)] σ) (zSay T a) := by
  obtain ⟨h, hi, hb, hq, hne⟩ := hS
  have hty := tyA_of hi hq
  have hw := hi.1
  rw [f_X5_readSay, q_X5_readSay_0, PC_pl h]
  unfold zSay
  refine cbVV (c_pass (d := d + 19) hT h (by rw [hk]; decide) (by rw [hk]; decide)) (fun _ a1 σ1 e1 h1 => ?_) (fun e σ F => ft_readSay_0_s2 F)
  obtain ⟨n1, e1⟩ := zN_inr.mp e1
  have E1 : a1 = aP a (a_p a + 1) := congrArg Prod.snd e1
  have w1 : wN a1 = 0 := by rw [E1]; exact hw
  have z1 : zL a1 = zL a := by rw [E1]; rfl
  have p1 : a_p a1 = a_p a + 1 := by rw [E1]; rfl
  have t1 : tyA a1 := by rw [E1]; exact hty
  have o1 : a_o a1 = 0 := by rw [E1]; exact ho
  refine cbIV (hE 20 a1 σ1 h1 w1 o1 (by omega) t1) (fun u a2 σ2 e2 h2 => ?_) (fun e y σ F => ft_readSay_0_s4 F)
  have V2 := V_X hT 11 _ _ _ (PC_len h1) t1 e2
  obtain ⟨w2, b2, l2, lt2, q2, -⟩ := Exp_b (PC_len h1) (by omega) e2
  have main : ∀ (y : Int32) (c : Bool), (y = 0 ↔ c = false) → (c = true ↔ (u = 36 ∨ cRef u = 1)) → SCV ci O T N (sm_go (sm_ZZ X) sm_PP true (sm_callM X true (d + 20)) 104 29 [vP (15, 0), vI (T.2.2.2 (a_p a)), vI u] [vI y, vI 59, vP (15, 0)] σ2) (if T.1 (a_p a2) = 59 then (if u = 36 ∨ cRef u = 1 then pb (zN a2) (fun _ a3 => .inr (0, zE a3 (if u = 36 then 22 else 23) 0 0 0 (T.2.2.2 (a_p a)))) else .inl (4, a_p a2)) else .inl (1, a_p a2)) := by
    intro y c hy hc
    rw [q_X5_readSay_29, if_pos rfl, fit_e hc]
    refine cbVV (c_expectFit (d := d + 18) hT h2 (by decide) (by decide) hy) (fun _ a3 σ3 e3 h3 => ?_) (fun e σ F => ft_readSay_29_s2 F)
    obtain ⟨-, n3, e3⟩ := fit_inr e3
    have E3 : a3 = aP a2 (a_p a2 + 1) := congrArg Prod.snd e3
    have w3 : wN a3 = 0 := by rw [E3]; exact w2
    have l3 : zL a3 < 900 := by rw [E3]; exact l2
    by_cases q : u = 36
    · rw [if_pos q, if_pos q]
      exact emV' (op := 22) (tgt := 0) h3 w3 l3 rfl (by decide) (Nat.zero_le _) rfl (cArg_n (by decide))
    · rw [if_neg q, if_neg q]
      exact emV' (op := 23) (tgt := 0) h3 w3 l3 rfl (by decide) (Nat.zero_le _) rfl (cArg_n (by decide))
  by_cases q : u = 38
  · rw [if_pos q]
    refine main 0 false ⟨fun _ => rfl, fun _ => rfl⟩ ⟨fun z => (by cases z), fun z => ?_⟩
    rw [q] at z
    exact absurd z (by decide)
  · rw [if_neg q]
    refine main 1 true ⟨fun z => absurd z (by decide), fun z => (by cases z)⟩ ⟨fun _ => ?_, fun _ => rfl⟩
    rcases V2 with v | v | v
    · exact Or.inl v
    · exact absurd v q
    · exact Or.inr v
/-- fail -/
theorem c_readFail (hT : TK T N) (hE : HS X d ci O T N (zX_ T 11) 0) (hS : SH ci O T N a σ) (hk : T.1 (a_p a) = 209) (ho : a_o a = 0) : SCV ci O T N (sm_callM X true (d + 21) 105 [vP (15, 0)] σ) (zFail T a) := by
  obtain ⟨h, hi, hb, hq, hne⟩ := hS
  have hty := tyA_of hi hq
  have hw := hi.1
  rw [f_X5_readFail, q_X5_readFail_0, PC_pl h]
  unfold zFail
  refine cbVV (c_pass (d := d + 19) hT h (by rw [hk]; decide) (by rw [hk]; decide)) (fun _ a1 σ1 e1 h1 => ?_) (fun e σ F => ft_readFail_0_s2 F)
  obtain ⟨n1, e1⟩ := zN_inr.mp e1
  have E1 : a1 = aP a (a_p a + 1) := congrArg Prod.snd e1
  have w1 : wN a1 = 0 := by rw [E1]; exact hw
  have z1 : zL a1 = zL a := by rw [E1]; rfl
  have p1 : a_p a1 = a_p a + 1 := by rw [E1]; rfl
  have t1 : tyA a1 := by rw [E1]; exact hty
  have o1 : a_o a1 = 0 := by rw [E1]; exact ho
  refine cbIV (hE 20 a1 σ1 h1 w1 o1 (by omega) t1) (fun u a2 σ2 e2 h2 => ?_) (fun e y σ F => ft_readFail_0_s4 F)
  obtain ⟨w2, b2, l2, lt2, q2, -⟩ := Exp_b (PC_len h1) (by omega) e2
  have hfin : ∀ a3 σ3, zFitT T 59 (decide (u = 36)) a2 = .inr (0, a3) → PC ci O T N a3 σ3 → wN a3 = 0 ∧ zL a3 < 900 := by
    intro a3 σ3 e3 h3
    obtain ⟨-, n3, e3⟩ := fit_inr e3
    have E3 : a3 = aP a2 (a_p a2 + 1) := congrArg Prod.snd e3
    exact ⟨by rw [E3]; exact w2, by rw [E3]; exact l2⟩
  by_cases q : u = 36
  · rw [if_pos q, fit_e (c := true) (P := u = 36) ⟨fun _ => q, fun _ => rfl⟩]
    refine cbVV (c_expectFit (d := d + 18) hT h2 (by decide) (by decide) ⟨fun z => absurd z (by decide), fun z => (by cases z)⟩) (fun _ a3 σ3 e3 h3 => ?_) (fun e σ F => ft_readFail_0_s6 F)
    obtain ⟨-, n3, e3⟩ := fit_inr e3
    have E3 : a3 = aP a2 (a_p a2 + 1) := congrArg Prod.snd e3
    exact emV' (op := 25) (tgt := 0) h3 (by rw [E3]; exact w2) (by rw [E3]; exact l2) rfl (by decide) (Nat.zero_le _) rfl (cArg_n (by decide))
  · rw [if_neg q, fit_e (c := false) (P := u = 36) ⟨fun z => (by cases z), fun z => absurd z q⟩]
    refine cbVV (c_expectFit (d := d + 18) hT h2 (by decide) (by decide) ⟨fun _ => rfl, fun _ => rfl⟩) (fun _ a3 σ3 e3 h3 => ?_) (fun e σ F => ft_readFail_0_s10 F)
    obtain ⟨z, -⟩ := fit_inr e3
    cases z
/-- var -/
theorem c_readVar (hT : TK T N) (hE : HS X d ci O T N (zX_ T 11) 0) (hS : SH ci O T N a σ) (hk : T.1 (a_p a) = 201) (ho : a_o a = 0) : SCV ci O T N (sm_callM X true (d + 21) 97 [vP (15, 0)] σ) (zVar T a) := by
  obtain ⟨h, hi, hb, hq, hne⟩ := hS
  have hw := hi.1
  rw [f_X5_readVar, q_X5_readVar_0]
  unfold zVar
  refine cbVV (c_pass (d := d + 19) hT h (by rw [hk]; decide) (by rw [hk]; decide)) (fun _ a1 σ1 e1 h1 => ?_) (fun e σ F => ft_readVar_0_s2 F)
  obtain ⟨n1, e1⟩ := zN_inr.mp e1
  have E1 : a1 = aP a (a_p a + 1) := congrArg Prod.snd e1
  refine cbIV (c_readType (d := d + 17) hT h1) (fun t a2 σ2 e2 h2 => ?_) (fun e y σ F => ft_readVar_0_s4 F)
  have V2 := V_ty hT e2
  obtain ⟨d2, p2, E2⟩ := D_ty (PC_len h1) e2
  have x2 : a_x a2 = none := by rw [E2, E1]; exact hi.2.1
  have w2 : wN a2 = 0 := by rw [E2, E1]; exact hw
  have z2 : zL a2 = zL a := by rw [E2, E1]; rfl
  have lt2 : a_p a + 1 < a_p a2 := by have := d2.1; rw [E1] at this; exact this
  refine cbIV (c_readNewN (d := d + 17) hT h2 x2 w2) (fun sl a3 σ3 e3 h3 => ?_) (fun e y σ F => ft_readVar_0_s6 F)
  obtain ⟨k3, f3, m3, n3, e3⟩ := zNewN_inr e3
  have E3 : a3 = aX (aP a2 (a_p a2 + 1)) (some (T.2.1 (a_p a2), t)) := congrArg Prod.snd e3
  have S3 : sl = Int32.ofNat (a_m a2) := congrArg Prod.fst e3
  rw [PC_pl h3]
  refine cbVV (c_expect (d := d + 18) hT h3 (by decide) (by decide)) (fun _ a5 σ5 e5 h5 => ?_) (fun e σ F => ft_readVar_0_s8 F)
  obtain ⟨k5, n5, e5⟩ := zMust_inr.mp e5
  have E5 : a5 = aP a3 (a_p a3 + 1) := congrArg Prod.snd e5
  have w5 : wN a5 = 0 := by rw [E5, E3]; exact w2
  have z5 : zL a5 = zL a := by rw [E5, E3]; exact z2
  have p5 : a_p a5 = a_p a2 + 2 := by rw [E5, E3]; rfl
  have o5 : a_o a5 = 0 := by rw [E5, E3, E2, E1]; exact ho
  have t5 : tyA a5 := by rw [E5, E3, E2, E1]; exact (show tyA a from tyA_of hi hq)
  have m5 : a_m a5 = a_m a2 := by rw [E5, E3]; rfl
  have x5 : a_x a5 = some (T.2.1 (a_p a2), t) := by rw [E5, E3]; rfl
  refine cbIV (hE 20 a5 σ5 h5 w5 o5 (by omega) t5) (fun u a6 σ6 e6 h6 => ?_) (fun e y σ F => ft_readVar_0_s10 F)
  obtain ⟨w6, b6, l6, lt6, q6, m6, x6, -, g6⟩ := Exp_b (PC_len h5) (by omega) e6
  rw [c_fits, bI_r, fit_e (c := decide (cFit u t = 1)) (P := cFit u t = 1) (by rw [decide_eq_true_iff])]
  refine cbVV (c_expectFit (d := d + 18) hT h6 (by decide) (by decide) (cFit_b _ _)) (fun _ a7 σ7 e7 h7 => ?_) (fun e σ F => ft_readVar_0_s14 F)
  obtain ⟨-, n7, e7⟩ := fit_inr e7
  have E7 : a7 = aP a6 (a_p a6 + 1) := congrArg Prod.snd e7
  have w7 : wN a7 = 0 := by rw [E7]; exact w6
  have l7 : zL a7 < 900 := by rw [E7]; exact l6
  have x7 : a_x a7 = some (T.2.1 (a_p a2), t) := by rw [E7]; exact x6.trans x5
  have m7 : a_m a7 = a_m a2 := by rw [E7]; exact m6.trans m5
  obtain ⟨σ8, e8, h8⟩ := c_know (X := X) (d := d + 19) h7 x7 w7
  rw [m7, ← S3] at e8
  rw [e8, bV_r]
  have h9 := c_em (X := X) (d := d + 19) (op := 6) (arg := sl) (ty := t) (o := 6) (g := sl) (pl := T.2.2.2 (a_p a3)) (tgt := 0) h8 w7 l7 rfl (by decide) (Nat.zero_le _) rfl (cArg_n (by decide))
  obtain ⟨σ9, e9, h9, -⟩ := h9
  have e9 : sm_callM X true (d + 20) 13 [vP (10, ci), vI 6, vI sl, vI (T.2.2.2 (a_p a3))] σ8 = _ := e9
  rw [if_cd h8.2.2.2.2.1, PC_cd h8, e9, bI_r]
  refine ⟨_, rfl, ?_⟩
  obtain ⟨p9, r9⟩ := h9
  refine ⟨p9, ?_⟩
  unfold PR at r9 ⊢
  have wA : wN (zE (zKnow (T.2.1 (a_p a2)) t a7) 6 sl 0 t (T.2.2.2 (a_p a3))) = 0 := w7
  have wB : wN (zKnow (T.2.1 (a_p a2)) t (zE a7 6 sl 0 t (T.2.2.2 (a_p a3)))) = 0 := w7
  rw [zIW_0 wA] at r9
  show CV (zIW (zKnow (T.2.1 (a_p a2)) t (zE a7 6 sl 0 t (T.2.2.2 (a_p a3))))) _ _ ci σ9 ∧ PQ (zIW (zKnow (T.2.1 (a_p a2)) t (zE a7 6 sl 0 t (T.2.2.2 (a_p a3))))) _ ci σ9 ∧ _
  rw [zIW_0 wB]
  obtain ⟨c1, c2, c3⟩ := r9
  exact ⟨CV_g (l := a_i a7) (e := (6, sl, 0, T.2.2.2 (a_p a3), t, gNow (zKnow (T.2.1 (a_p a2)) t a7))) (e' := (6, sl, 0, T.2.2.2 (a_p a3), t, gNow a7)) c1 rfl rfl rfl rfl rfl, PQ_g (l := a_i a7) c2 rfl, c3⟩
end
