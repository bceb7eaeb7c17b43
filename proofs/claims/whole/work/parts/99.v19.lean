section
/-! THE CLASS READS if, while, try, BLOCKS -/
variable {X : Nat × (Nat → Int32)} {d : Nat} {s σ : sm_S} {ci N : Nat} {O : Nat → Nat → Nat → Int32} {T : zT} {a b : zA} {t : Int32} {blk : zA → zR}
def SCJ (ci : Nat) (O : Nat → Nat → Nat → Int32) (T : zT) (N : Nat) (r : sm_R) (z : zR) : Prop := match z with
  | .inl e => FI e.1 (T.2.2.2 e.2) ci O r
  | .inr x => ∃ σ', r = rI (Int32.ofNat (pos vC (a_i x.2) (zL x.2 - 1))) σ' ∧ PC ci O T N x.2 σ'
theorem cbJV {r : sm_R} {z : zR} {k : Int32 → sm_S → sm_R} {k' : Int32 → zA → zR} (h : SCJ ci O T N r z) (hok : ∀ y a σ, z = .inr (y, a) → PC ci O T N a σ → SCV ci O T N (k (Int32.ofNat (pos vC (a_i a) (zL a - 1))) σ) (k' y a)) (hf : ∀ (e : Int32 × Nat) y σ, FS e.1 (T.2.2.2 e.2) ci O σ → FV e.1 (T.2.2.2 e.2) ci O (k y σ)) : SCV ci O T N (sm_bI r sm_tw k) (pb z k') := by
  rcases z with e | ⟨y, a⟩
  · obtain ⟨y, σ', rfl, F⟩ := h; exact hf e y σ' F
  · obtain ⟨σ', rfl, P⟩ := h; exact hok y a σ' rfl P
theorem cbVJ {r : sm_R} {z : zR} {k : sm_S → sm_R} {k' : Int32 → zA → zR} (h : SCV ci O T N r z) (hok : ∀ y a σ, z = .inr (y, a) → PC ci O T N a σ → SCJ ci O T N (k σ) (k' y a)) (hf : ∀ (e : Int32 × Nat) σ, FS e.1 (T.2.2.2 e.2) ci O σ → FI e.1 (T.2.2.2 e.2) ci O (k σ)) : SCJ ci O T N (sm_bV r sm_tw k) (pb z k') := cbV (G := SCJ ci O T N) h hok hf
theorem cbIJ {r : sm_R} {z : zR} {k : Int32 → sm_S → sm_R} {k' : Int32 → zA → zR} (h : SCI ci O T N r z) (hok : ∀ y a σ, z = .inr (y, a) → PC ci O T N a σ → SCJ ci O T N (k y σ) (k' y a)) (hf : ∀ (e : Int32 × Nat) y σ, FS e.1 (T.2.2.2 e.2) ci O σ → FI e.1 (T.2.2.2 e.2) ci O (k y σ)) : SCJ ci O T N (sm_bI r sm_tw k) (pb z k') := cbI (G := SCJ ci O T N) h hok hf
theorem pos_pre {l m : List zI} {v : Nat → Bool} {k : Nat} (h : l <+: m) (hk : k ≤ l.length) : pos v m k = pos v l k := by
  obtain ⟨r, rfl⟩ := h; exact pos_app hk
theorem ctr_pre {l m : List zI} {h : List Nat} (hp : l <+: m) (hh : ∀ k ∈ h, k ≤ l.length) : ctr m h = ctr l h := by
  obtain ⟨r, rfl⟩ := hp; exact ctr_app hh
theorem get_pre {l m : List zI} {k : Nat} {e : zI} (h : l <+: m) (hk : l[k]? = some e) : m[k]? = some e := by
  obtain ⟨r, rfl⟩ := h
  rw [List.getElem?_append_left (List.getElem?_eq_some_iff.mp hk).1]; exact hk
/-- the ( ) of if and while -/
theorem c_readCon {p0 : Nat} (hT : TK T N) (hE1 : HS X d ci O T N (zX_ T 10) 1) (h : PC ci O T N a σ) (hw : wN a = 0) (ho : a_o a = 0) (hb : zL a ≤ a_p a) (hty : tyA a) : SCJ ci O T N (sm_callM X true (d + 20) 99 [vP (15, 0), vI (T.2.2.2 p0)] σ) (zCon T p0 a) := by
  rw [f_X5_readCondition, q_X5_readCondition_0]
  unfold zCon
  refine cbVJ (c_expectOpening (d := d + 17) (n := 0) hT h (by decide) (by decide) ho (by omega)) (fun _ a2 σ2 e2 h2 => ?_) (fun e σ F => ft_readCondition_0_s2 F)
  obtain ⟨c2, n2, e2⟩ := zOpens_inr.mp e2
  have E2 : a2 = aP (aO a (a_o a + 1)) (a_p a + 1) := congrArg Prod.snd e2
  have w2 : wN a2 = 0 := by rw [E2]; exact hw
  have z2 : zL a2 = zL a := by rw [E2]; rfl
  have p2 : a_p a2 = a_p a + 1 := by rw [E2]; rfl
  have t2 : tyA a2 := by rw [E2]; exact hty
  have o2 : a_o a2 = 1 := by rw [E2]; show a_o a + 1 = 1; omega
  refine cbIJ (hE1 19 a2 σ2 h2 w2 o2 (by omega) t2) (fun u a3 σ3 e3 h3 => ?_) (fun e y σ F => ft_readCondition_0_s4 F)
  obtain ⟨w3, b3, t3, l3, o3, lt3, -⟩ := sub_b (D_X 10) (PC_len h2) (by omega) t2 e3
  have e0 : ∀ c : Bool, (c = true ↔ u = 36) → (if T.1 (a_p a3) = 41 then (if u = 36 then pb (zN (aO a3 (a_o a3 - 1))) (fun _ a4 => .inr (0, zE a4 26 0 0 0 (T.2.2.2 p0))) else .inl (4, a_p a3)) else .inl (1, a_p a3) : zR) = pb (zFitT T 41 c (aO a3 (a_o a3 - 1))) (fun _ a4 => .inr (0, zE a4 26 0 0 0 (T.2.2.2 p0))) := fun c hc => fit_e (a := aO a3 (a_o a3 - 1)) hc
  by_cases q : u = 36
  · rw [if_pos q, e0 true ⟨fun _ => q, fun _ => rfl⟩]
    refine cbVJ (c_expectFit (d := d + 17) (a := aO a3 (a_o a3 - 1)) hT h3 (by decide) (by decide) ⟨fun z => absurd z (by decide), fun z => (by cases z)⟩) (fun _ a4 σ4 e4 h4 => ?_) (fun e σ F => ft_readCondition_0_s6 F)
    obtain ⟨-, n4, e4⟩ := fit_inr e4
    have E4 : a4 = aP (aO a3 (a_o a3 - 1)) (a_p a3 + 1) := congrArg Prod.snd e4
    have w4 : wN a4 = 0 := by rw [E4]; exact w3
    have l4 : zL a4 < 900 := by rw [E4]; exact l3
    obtain ⟨σ5, e5, h5, -⟩ := c_em (X := X) (d := d + 18) (op := 26) (arg := 0) (ty := 0) (o := 26) (g := 0) (pl := T.2.2.2 p0) (tgt := 0) h4 w4 l4 rfl (by decide) (Nat.zero_le _) rfl (by unfold cArg; rw [if_pos (Or.inr rfl)]; rfl)
    have e5 : sm_callM X true (d + 19) 13 [vP (10, ci), vI 26, vI 0, vI (T.2.2.2 p0)] σ4 = _ := e5
    rw [if_cd h4.2.2.2.2.1, PC_cd h4, e5, bI_r]
    refine ⟨_, ?_, h5⟩
    have hz : zL (zE a4 26 0 0 0 (T.2.2.2 p0)) - 1 = zL a4 := by rw [zL_E]; omega
    show rI _ σ5 = rI (Int32.ofNat (pos vC (a_i (zE a4 26 0 0 0 (T.2.2.2 p0))) (zL (zE a4 26 0 0 0 (T.2.2.2 p0)) - 1))) σ5
    rw [hz, pos_pre (l := a_i a4) (k := zL a4) (Pre_E (a := a4)) (Nat.le_refl _)]
  · rw [if_neg q, e0 false ⟨fun z => (by cases z), fun z => absurd z q⟩]
    refine cbVJ (c_expectFit (d := d + 17) (a := aO a3 (a_o a3 - 1)) hT h3 (by decide) (by decide) ⟨fun _ => rfl, fun _ => rfl⟩) (fun _ a4 σ4 e4 h4 => ?_) (fun e σ F => ft_readCondition_0_s10 F)
    obtain ⟨z, -⟩ := fit_inr e4
    cases z
/-- a block, when r braces stand -/
def HB (X : Nat × (Nat → Int32)) (d ci : Nat) (O : Nat → Nat → Nat → Int32) (T : zT) (N : Nat) (blk : zA → zR) (r : Nat) : Prop := ∀ e a σ, SH ci O T N a σ → a_r a = r → 9 * (a_c a).length ≤ a_p a + 9 * (r + 1) → SCV ci O T N (sm_callM X true (d + e) 95 [vP (15, 0), vI (Int32.ofNat r)] σ) (blk a)
theorem HB_le {r n : Nat} (h : HB X d ci O T N blk r) : HB X (d + n) ci O T N blk r := fun e a σ => by
  rw [Nat.add_assoc]; exact h (n + e) a σ
theorem SH_D {n : Nat} {a1 : zA} {σ1 : sm_S} (hb : zL a ≤ a_p a) (hq : tyQ a) (hne : a_q a ≠ []) (hd : Dst n a a1) (h1 : PC ci O T N a1 σ1) (i1 : In0 tyOk a1) : SH ci O T N a1 σ1 := by
  obtain ⟨g1, g2, g3, g4, g5, g6, g7, -⟩ := hd
  exact ⟨h1, i1, by omega, by unfold tyQ; rw [g7]; exact hq, by rw [g7]; exact hne⟩
/-- what the item of a condition is, also behind a block -/
theorem con_at {p0 : Nat} {a1 a2 : zA} (h : ∃ c, a_i a1 = a_i c ++ [(26, 0, 0, T.2.2.2 p0, 0, gNow c)] ∧ Pre a c) (h2 : Pre a1 a2) : ∃ g, (a_i a1)[zL a1 - 1]? = some (26, 0, 0, T.2.2.2 p0, 0, g) ∧ (a_i a2)[zL a1 - 1]? = some (26, 0, 0, T.2.2.2 p0, 0, g) ∧ zL a ≤ zL a1 - 1 ∧ 1 ≤ zL a1 := by
  obtain ⟨c, hc1, hc2⟩ := h
  have hz : zL a1 = zL c + 1 := by unfold zL; rw [hc1, List.length_append]; rfl
  have hg : (a_i a1)[zL a1 - 1]? = some (26, 0, 0, T.2.2.2 p0, 0, gNow c) := by
    rw [hz, hc1]
    show (a_i c ++ _)[(a_i c).length]? = _
    simp
  exact ⟨gNow c, hg, get_pre h2 hg, by have := hc2.length_le; unfold zL at *; omega, by omega⟩
theorem zN_X {k tgt op : Nat} {arg ty pl : Int32} {t2 : Nat} : zN (zX (zE a op arg t2 ty pl) k tgt) = pb (zN a) (fun y a1 => .inr (y, zX (zE a1 op arg t2 ty pl) k tgt)) := by
  unfold zN
  show (if a_p a = 800 then _ else _) = _
  split <;> rfl
theorem c_readIf {r : Nat} (hT : TK T N) (hE1 : HS X d ci O T N (zX_ T 10) 1) (hB : HB X d ci O T N blk r) (hD : SubB tyOk blk) (hS : SH ci O T N a σ) (hk : T.1 (a_p a) = 202) (ho : a_o a = 0) (hr : a_r a = r) (hc : 9 * (a_c a).length ≤ a_p a + 9 * r) : SCV ci O T N (sm_callM X true (d + 21) 100 [vP (15, 0), vI (Int32.ofNat r)] σ) (zIf T blk a) := by
  obtain ⟨h, hi, hb, hq, hne⟩ := hS
  have hty := tyA_of hi hq
  have hw := hi.1
  rw [f_X5_readIf, q_X5_readIf_0, PC_pl h]
  unfold zIf zCond
  rw [pb_pb]
  refine cbVV (c_pass (d := d + 19) hT h (by rw [hk]; decide) (by rw [hk]; decide)) (fun _ a0 σ0 e0 h0 => ?_) (fun e σ F => ft_readIf_0_s2 F)
  obtain ⟨n0, e0'⟩ := zN_inr.mp e0
  have E0 : a0 = aP a (a_p a + 1) := congrArg Prod.snd e0'
  have w0 : wN a0 = 0 := by rw [E0]; exact hw
  have b0 : zL a0 ≤ a_p a0 := by rw [E0]; show zL a ≤ a_p a + 1; omega
  have t0 : tyA a0 := by rw [E0]; exact hty
  have o0 : a_o a0 = 0 := by rw [E0]; exact ho
  refine cbJV (c_readCon hT hE1 h0 w0 o0 b0 t0) (fun y1 a1 σ1 e1 h1 => ?_) (fun e y σ F => ft_readIf_0_s4 F)
  have eC : zCond T (a_p a) a = .inr (y1, a1) := by unfold zCond; rw [e0]; exact e1
  obtain ⟨d1, i1, -, hcon⟩ := D_cond (PC_len h) hi eC
  have S1 := SH_D hb hq hne d1 h1 i1
  have r1 : a_r a1 = r := d1.2.2.2.2.2.2.2.2.2.1.trans hr
  have c1 : 9 * (a_c a1).length ≤ a_p a1 + 9 * (r + 1) := by have := d1.2.2.2.2.2.2.2.2.2.2.2; omega
  refine cbVV (hB 20 a1 σ1 S1 r1 c1) (fun _ a2 σ2 e2 h2 => ?_) (fun e σ F => ft_readIf_0_s6 F)
  obtain ⟨d2, i2, k2⟩ := hD a1 _ a2 (PC_len h1) i1 e2
  obtain ⟨g0, q1, q2, q3, q4⟩ := con_at hcon d2.2.2.2.1
  have S2 := SH_D S1.2.2.1 S1.2.2.2.1 S1.2.2.2.2 d2 h2 i2
  have l2 : zL a2 < 900 := by have := S2.2.2.1; have := PC_len h2; omega
  have P12 : pos vC (a_i a1) (zL a1 - 1) = pos vC (a_i a2) (zL a1 - 1) := (pos_pre d2.2.2.2.1 (by unfold zL; omega)).symm
  rw [PC_k h2]
  by_cases k : T.1 (a_p a2) = 203
  · rw [if_pos k, if_pos k, zN_X, pb_pb]
    refine cbVV (c_pass (d := d + 19) hT h2 (by rw [k]; decide) (by rw [k]; decide)) (fun _ a3 σ3 e3 h3 => ?_) (fun e σ F => ft_readIf_0_s8 F)
    have d3 := Dst_N (PC_len h2) e3
    obtain ⟨n3, e3'⟩ := zN_inr.mp e3
    have E3 : a3 = aP a2 (a_p a2 + 1) := congrArg Prod.snd e3'
    have w3 : wN a3 = 0 := by rw [E3]; exact i2.1
    have z3 : zL a3 = zL a2 := by rw [E3]; rfl
    have I3 : a_i a3 = a_i a2 := by rw [E3]; rfl
    rw [pb_r]
    obtain ⟨σ4, e4, h4, -⟩ := c_em (X := X) (d := d + 19) (op := 0) (arg := 0) (ty := 0) (o := 0) (g := 0) (pl := -1) (tgt := 0) h3 w3 (by omega) rfl (by decide) (Nat.zero_le _) rfl (by unfold cArg; rw [if_pos (Or.inl rfl)]; rfl)
    have e4 : sm_callM X true (d + 20) 13 [vP (10, ci), vI 0, vI 0, vI (-1)] σ3 = _ := e4
    rw [if_cd h3.2.2.2.2.1, PC_cd h3, e4, bI_r, if_cd h4.2.2.2.2.1, PC_cd h4]
    have z4 : zL (zE a3 0 0 0 0 (-1)) = zL a2 + 1 := by rw [zL_E, z3]
    have pre34 : a_i a2 <+: a_i (zE a3 0 0 0 0 (-1)) := by rw [← I3]; exact Pre_E (a := a3)
    obtain ⟨σ5, e5, h5⟩ := c_aim (X := X) (d := d + 18) (k := zL a1 - 1) h4 w3 (by have := S2.2.2.1; have := PC_len h2; omega) (get_pre pre34 q2) (Or.inr rfl)
    rw [pos_pre pre34 (by have := d2.2.2.2.1.length_le; unfold zL; omega), ← P12] at e5
    rw [z4] at h5
    have e5 : sm_callM X true (d + 20) 15 [vP (10, ci), vI (Int32.ofNat (pos vC (a_i a1) (zL a1 - 1)))] σ4 = rV σ5 := e5
    rw [e5, bV_r]
    have i5 : In0 tyOk (zX (zE a3 0 0 0 0 (-1)) (zL a1 - 1) (zL a2 + 1)) := by
      have := In0_N e3 i2; exact this
    have z5 : zL (zX (zE a3 0 0 0 0 (-1)) (zL a1 - 1) (zL a2 + 1)) = zL a2 + 1 := by rw [zL_mod (b := zE a3 0 0 0 0 (-1)) rfl]; exact z4
    have p5 : a_p (zX (zE a3 0 0 0 0 (-1)) (zL a1 - 1) (zL a2 + 1)) = a_p a2 + 1 := by show a_p a3 = _; rw [E3]; rfl
    have qq5 : a_q (zX (zE a3 0 0 0 0 (-1)) (zL a1 - 1) (zL a2 + 1)) = a_q a2 := by show a_q a3 = _; rw [E3]; rfl
    have rr5 : a_r (zX (zE a3 0 0 0 0 (-1)) (zL a1 - 1) (zL a2 + 1)) = a_r a2 := by show a_r a3 = _; rw [E3]; rfl
    have cc5 : a_c (zX (zE a3 0 0 0 0 (-1)) (zL a1 - 1) (zL a2 + 1)) = a_c a2 := by show a_c a3 = _; rw [E3]; rfl
    generalize hX5 : zX (zE a3 0 0 0 0 (-1)) (zL a1 - 1) (zL a2 + 1) = x5 at *
    have S5 : SH ci O T N x5 σ5 := ⟨h5, i5, by have := S2.2.2.1; omega, by unfold tyQ; rw [qq5]; exact S2.2.2.2.1, by rw [qq5]; exact S2.2.2.2.2⟩
    have bnd : 9 * (a_c x5).length ≤ a_p x5 + 9 * (r + 1) := by rw [cc5, p5]; have := d2.2.2.2.2.2.2.2.2.2.2.2; omega
    refine cbVV (hB 20 x5 σ5 S5 (rr5.trans (d2.2.2.2.2.2.2.2.2.2.1.trans r1)) bnd) (fun _ a6 σ6 e6 h6 => ?_) (fun e σ F => ft_readIf_0_s14 F)
    obtain ⟨d6, i6, k6⟩ := hD x5 _ a6 (PC_len h5) i5 e6
    have S6 := SH_D S5.2.2.1 S5.2.2.2.1 S5.2.2.2.2 d6 h6 i6
    have at5 : (a_i x5)[zL a2]? = some (0, 0, 0, -1, 0, gNow a3) := by
      rw [← hX5]
      show ((a_i (zE a3 0 0 0 0 (-1))).modify (zL a1 - 1) _)[zL a2]? = _
      rw [List.getElem?_modify]
      have : (a_i (zE a3 0 0 0 0 (-1)))[zL a2]? = some (0, 0, 0, -1, 0, gNow a3) := by
        show (a_i a3 ++ _)[zL a2]? = _
        rw [← z3]; unfold zL; simp
      rw [this]
      have hlt : ¬ zL a1 - 1 = zL a2 := by have := d2.2.2.2.1.length_le; unfold zL at *; omega
      simp [hlt]
    obtain ⟨σ7, e7, h7⟩ := c_aim (X := X) (d := d + 18) (k := zL a2) h6 i6.1 (by have := S6.2.2.1; have := PC_len h6; omega) (get_pre d6.2.2.2.1 at5) (Or.inl rfl)
    have py : pos vC (a_i a3) (zL a3) = pos vC (a_i a6) (zL a2) := by
      have hA : pos vC (a_i a6) (zL a2) = pos vC (a_i x5) (zL a2) := pos_pre d6.2.2.2.1 (by show zL a2 ≤ zL x5; omega)
      have hB5 : pos vC (a_i x5) (zL a2) = pos vC (a_i (zE a3 0 0 0 0 (-1))) (zL a2) := by rw [← hX5]; exact pos_mod (fun _ => rfl)
      rw [hA, hB5, ← z3]
      exact (pos_pre (Pre_E (a := a3)) (Nat.le_refl _)).symm
    have e7 : sm_callM X true (d + 20) 15 [vP (10, ci), vI (Int32.ofNat (pos vC (a_i a6) (zL a2)))] σ6 = rV σ7 := e7
    rw [if_cd h6.2.2.2.2.1, PC_cd h6, py, e7, bV_r]
    exact ⟨_, rfl, h7⟩
  · rw [if_neg k, if_neg k]
    obtain ⟨σ5, e5, h5⟩ := c_aim (X := X) (d := d + 18) (k := zL a1 - 1) h2 i2.1 l2 q2 (Or.inr rfl)
    have e5 : sm_callM X true (d + 20) 15 [vP (10, ci), vI (Int32.ofNat (pos vC (a_i a2) (zL a1 - 1)))] σ2 = rV σ5 := e5
    rw [if_cd h2.2.2.2.2.1, PC_cd h2, P12, e5, bV_r]
    exact ⟨_, rfl, h5⟩
theorem c_readWhile {r : Nat} (hT : TK T N) (hE1 : HS X d ci O T N (zX_ T 10) 1) (hB : HB X d ci O T N blk r) (hD : SubB tyOk blk) (hS : SH ci O T N a σ) (hk : T.1 (a_p a) = 204) (ho : a_o a = 0) (hr : a_r a = r) (hc : 9 * (a_c a).length ≤ a_p a + 9 * r) : SCV ci O T N (sm_callM X true (d + 21) 101 [vP (15, 0), vI (Int32.ofNat r)] σ) (zWhile T blk a) := by
  obtain ⟨h, hi, hb, hq, hne⟩ := hS
  have hty := tyA_of hi hq
  have hw := hi.1
  have hsz : σ.1 10 ci 11 = Int32.ofNat (pos vC (a_i a) (zL a)) := by
    have := h.2.1.1
    rw [zIW_0 hw] at this; exact this
  rw [f_X5_readWhile, q_X5_readWhile_0, PC_pl h, PC_cd h, rq_t, hsz]
  unfold zWhile zCond
  rw [pb_pb]
  refine cbVV (c_pass (d := d + 19) hT h (by rw [hk]; decide) (by rw [hk]; decide)) (fun _ a0 σ0 e0 h0 => ?_) (fun e σ F => ft_readWhile_0_s3 F)
  obtain ⟨n0, e0'⟩ := zN_inr.mp e0
  have E0 : a0 = aP a (a_p a + 1) := congrArg Prod.snd e0'
  have w0 : wN a0 = 0 := by rw [E0]; exact hw
  have b0 : zL a0 ≤ a_p a0 := by rw [E0]; show zL a ≤ a_p a + 1; omega
  have t0 : tyA a0 := by rw [E0]; exact hty
  have o0 : a_o a0 = 0 := by rw [E0]; exact ho
  refine cbJV (c_readCon hT hE1 h0 w0 o0 b0 t0) (fun y1 a1 σ1 e1 h1 => ?_) (fun e y σ F => ft_readWhile_0_s5 F)
  have eC : zCond T (a_p a) a = .inr (y1, a1) := by unfold zCond; rw [e0]; exact e1
  obtain ⟨d1, i1, -, hcon⟩ := D_cond (PC_len h) hi eC
  have S1 := SH_D hb hq hne d1 h1 i1
  have r1 : a_r a1 = r := d1.2.2.2.2.2.2.2.2.2.1.trans hr
  have c1 : 9 * (a_c a1).length ≤ a_p a1 + 9 * (r + 1) := by have := d1.2.2.2.2.2.2.2.2.2.2.2; omega
  refine cbVV (hB 20 a1 σ1 S1 r1 c1) (fun _ a2 σ2 e2 h2 => ?_) (fun e σ F => ft_readWhile_0_s7 F)
  obtain ⟨d2, i2, k2⟩ := hD a1 _ a2 (PC_len h1) i1 e2
  obtain ⟨g0, q1, q2, q3, q4⟩ := con_at hcon d2.2.2.2.1
  have S2 := SH_D S1.2.2.1 S1.2.2.2.1 S1.2.2.2.2 d2 h2 i2
  have l2 : zL a2 < 800 := by have := d2.2.2.1; have := S1.2.2.1; have := PC_len h2; have := d2.1; omega
  have P12 : pos vC (a_i a1) (zL a1 - 1) = pos vC (a_i a2) (zL a1 - 1) := (pos_pre d2.2.2.2.1 (by unfold zL; omega)).symm
  have pre02 : a_i a <+: a_i a2 := d1.2.2.2.1.trans d2.2.2.2.1
  have hlen : zL a ≤ zL a2 := pre02.length_le
  obtain ⟨σ4, e4, h4, -⟩ := c_em (X := X) (d := d + 19) (op := 0) (arg := 0) (ty := 0) (o := 0) (g := Int32.ofNat (pos vC (a_i a) (zL a))) (pl := -1) (tgt := zL a) h2 i2.1 (by omega) rfl (by decide) hlen rfl (by unfold cArg; rw [if_pos (Or.inl rfl)]; show _ = Int32.ofNat (pos vC (a_i a2) (zL a)); rw [pos_pre (k := zL a) pre02 (Nat.le_refl _)])
  have e4 : sm_callM X true (d + 20) 13 [vP (10, ci), vI 0, vI (Int32.ofNat (pos vC (a_i a) (zL a))), vI (-1)] σ2 = _ := e4
  rw [if_cd h2.2.2.2.2.1, PC_cd h2, e4, bI_r, if_cd h4.2.2.2.2.1, PC_cd h4]
  have z4 : zL (zE a2 0 0 (zL a) 0 (-1)) = zL a2 + 1 := zL_E
  have pre24 : a_i a2 <+: a_i (zE a2 0 0 (zL a) 0 (-1)) := Pre_E (a := a2)
  obtain ⟨σ5, e5, h5⟩ := c_aim (X := X) (d := d + 18) (k := zL a1 - 1) h4 i2.1 (by omega) (get_pre pre24 q2) (Or.inr rfl)
  rw [pos_pre pre24 (by have := d2.2.2.2.1.length_le; unfold zL; omega), ← P12] at e5
  rw [z4] at h5
  have e5 : sm_callM X true (d + 20) 15 [vP (10, ci), vI (Int32.ofNat (pos vC (a_i a1) (zL a1 - 1)))] σ4 = rV σ5 := e5
  rw [e5, bV_r]
  exact ⟨_, rfl, h5⟩
end
