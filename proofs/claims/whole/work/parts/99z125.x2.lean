section
/-! A LOAD, IN THE CLASS AND IN THE REFERENCE -/
variable {X : Nat × (Nat → Int32)} {d : Nat} {s σ σ' : sm_S} {ci cj mi mj N : Nat} {O : Nat → Nat → Nat → Int32} {T : zT} {a b : zA} {R : Nat → Int32} {n : Nat} {x : zTx}
theorem c_read (hN : tLast R n N) (ht : tcI R n (N + 1) σ) (hf : F5 ci σ) (h4 : P4 ci σ) (hb : NB σ) :
    SCV ci σ.1 (zTk R n) N (sm_callM X true (d + 401) 82 [vP (15, 0), vP (10, ci)] σ) (zText (zTk R n) 802 zA0) := by
  have e3 : (sR σ 15 0 3 (10, ci)).2.2.1 15 0 3 = (10, ci) := by rw [gR, if_pos ⟨rfl, rfl, rfl⟩]
  rw [f_X5_read, q_X5_read_0, e3, if_pos rfl, f_X0_clear, q_X0_clear_0, bV_r]
  have hp := c_pass1 (X := X) (d := d + 399) (T := zTk R n) (N := N) (ci := ci) (O := σ.1) (σ := sI (sI (sI (sI (sI (sI (sI (sI (sR σ 15 0 3 (10, ci)) 10 ci 11 0) 10 ci 9 5) 10 ci 10 0) 10 ci 12 (-1)) 15 0 4 (-1)) 15 0 11 0) 15 0 12 (-1)) 15 0 5 (-1)) hN.1
    (fun j hj => ?_) ?_ ?_ ⟨?_, ?_⟩ ?_
  · obtain ⟨σ1, e1, h1⟩ := hp
    have e1 : sm_callM X true (d + 400) 84 [vP (15, 0)] _ = rV σ1 := e1
    rw [e1, bV_r, q_X5_read_38, if_neg (by decide), if_pos h1.1.2.2.2.2.2.2.2.2.2.1, if_pos rfl]
    exact c_text0 (d := d) (f := 801) (i := 0) (TK_of hN) h1 TI_0 (Nat.zero_le _) (by show 801 ≤ 801 + 1 + 0; omega)
  · obtain ⟨b1, b2, b3⟩ := ht.1 j (by omega)
    exact ⟨by rw [gI, if_neg (by omega), gI, if_neg (by omega), gI, if_neg (by omega), gI, if_neg (by omega), gI, if_neg (by omega), gI, if_neg (by omega), gI, if_neg (by omega), gI, if_neg (by omega), gRI]; exact b1, by rw [gI, if_neg (by omega), gI, if_neg (by omega), gI, if_neg (by omega), gI, if_neg (by omega), gI, if_neg (by omega), gI, if_neg (by omega), gI, if_neg (by omega), gI, if_neg (by omega), gRI]; exact b2, b3⟩
  · rw [gI, if_neg (by omega), gI, if_neg (by omega), gI, if_neg (by omega), gI, if_neg (by omega), gI, if_neg (by omega), gI, if_neg (by omega), gI, if_neg (by omega), gI, if_neg (by omega), gRI]; exact ht.2.1
  · rw [gI, if_pos ⟨rfl, rfl, rfl⟩]
  · rw [gI, if_neg (by omega), gI, if_neg (by omega), gI, if_pos ⟨rfl, rfl, rfl⟩]
  · rw [gI, if_neg (by omega), gI, if_pos ⟨rfl, rfl, rfl⟩]
  · refine PR_150 (PR_150 (PR_150 ?_ (by omega)) (by omega)) (by omega)
    have hc : ∀ p, p < 5 → σ.1 36 ci p = (sI (sI (sI (sI (sI (sR σ 15 0 3 (10, ci)) 10 ci 11 0) 10 ci 9 5) 10 ci 10 0) 10 ci 12 (-1)) 15 0 4 (-1)).1 36 ci p := fun p _ => by
      rw [gI, if_neg (by omega), gI, if_neg (by omega), gI, if_neg (by omega), gI, if_neg (by omega), gI, if_neg (by omega), gRI]
    refine ⟨⟨?_, fun k e hk => (by cases hk), ?_, fun j t hj => (by cases hj), ?_, rfl, ⟨fun e he => (by cases he), fun t ht => (by cases ht), fun k hk => (by cases hk)⟩⟩, ⟨?_, by decide, fun i hi => ?_, fun i q hi => (by cases hi)⟩, trivial, ⟨⟨⟨0, by omega, ?_⟩, fun t c k hc ht => ?_⟩, ⟨0, by omega, ?_⟩, ⟨5, by omega, by omega, ?_⟩, ?_, ?_, fun i hi => ?_, fun p hp => ?_, ?_⟩, fun z => absurd rfl z⟩
    · rw [gI, if_neg (by omega), gI, if_neg (by omega), gI, if_neg (by omega), gI, if_neg (by omega), gI, if_pos ⟨rfl, rfl, rfl⟩]; rfl
    · rw [gI, if_neg (by omega), gI, if_neg (by omega), gI, if_pos ⟨rfl, rfl, rfl⟩]; rfl
    · rw [gI, if_neg (by omega), gI, if_pos ⟨rfl, rfl, rfl⟩]; rfl
    · rw [gI, if_neg (by omega), gI, if_neg (by omega), gI, if_neg (by omega), gI, if_pos ⟨rfl, rfl, rfl⟩]; rfl
    · obtain ⟨f1, f2, f3⟩ := hf i hi
      refine ⟨?_, ?_, fun j t hj => ?_⟩
      · rw [gI, if_neg (by omega), gI, if_neg (by omega), gI, if_neg (by omega), gI, if_neg (by omega), gI, if_neg (by omega), gRI]; exact f1
      · rw [gI, if_neg (by omega), gI, if_neg (by omega), gI, if_neg (by omega), gI, if_neg (by omega), gI, if_neg (by omega), gRI]; exact f2
      · rw [gI, if_neg (by omega), gI, if_neg (by omega), gI, if_neg (by omega), gI, if_neg (by omega), gI, if_neg (by omega), gRI]; exact f3 j t hj
    · rw [gI, if_neg (by omega), gI, if_neg (by omega), gI, if_neg (by omega), gI, if_neg (by omega), gI, if_pos ⟨rfl, rfl, rfl⟩]; rfl
    · rw [gI, if_neg (by omega), gI, if_neg (by omega), gI, if_neg (by omega), gI, if_neg (by omega), gI, if_neg (by omega), gRI]
    · rw [gI, if_neg (by omega), gI, if_neg (by omega), gI, if_pos ⟨rfl, rfl, rfl⟩]; rfl
    · rw [gI, if_neg (by omega), gI, if_neg (by omega), gI, if_neg (by omega), gI, if_pos ⟨rfl, rfl, rfl⟩]; rfl
    · rw [gI, if_neg (by omega), gI, if_neg (by omega), gI, if_neg (by omega), gI, if_neg (by omega), gI, if_neg (by omega), gRI]; exact hb.1
    · rw [gI, if_neg (by omega), gI, if_neg (by omega), gI, if_neg (by omega), gI, if_neg (by omega), gI, if_neg (by omega), gRI]; exact hb.2.1
    · rw [gI, if_neg (by omega), gI, if_neg (by omega), gI, if_neg (by omega), gI, if_neg (by omega), gI, if_neg (by omega), gRI]; exact hb.2.2 i hi
    · rw [gI, if_neg (by omega), gI, if_neg (by omega), gI, if_neg (by omega), gI, if_neg (by omega), gI, if_neg (by omega), gRI]; exact h4 p hp
    · exact e3
/-- what a load leaves in the class -/
def CLd (x : zTx) (ci cj : Nat) (T : zT) (z : zR) (r : sm_R) : Prop := match z with
  | .inl e => ∃ σ', r = rI 0 σ' ∧ σ'.1 15 0 11 = e.1 ∧ σ'.1 15 0 12 = T.2.2.2 e.2 ∧ CRd x ci cj σ' ∧ σ'.1 17 0 1 = 0
  | .inr y => ∃ σ', r = rI (Int32.ofNat (a_q y.2).length) σ' ∧ σ'.1 15 0 11 = 0 ∧ σ'.1 15 0 12 = -1 ∧ CRd (a_i y.2, a_c y.2, a_q y.2) cj ci σ' ∧ σ'.1 17 0 1 = 0
theorem c_load {len : Nat} (hl : σ.1 17 0 1 = Int32.ofNat len) (hl3 : len ≤ 3000) (hn : n ≤ len) (hR : ∀ j, σ.1 52 0 j = R j) (h : CRd x ci cj σ) : CLd x ci cj (zTk R n) (zText (zTk R n) 802 zA0) (sm_callM X true (d + 402) 168 [vP (21, 0), vI (Int32.ofNat n)] σ) := by
  obtain ⟨N, hN⟩ := tLast_ex R n
  obtain ⟨σ1, e1, h1⟩ := c_cut (X := X) (d := d + 393) (n := n) (by omega) hR hN
  have e1 : sm_callM X true (d + 401) 132 [vP (17, 0), vI (Int32.ofNat n)] σ = rV σ1 := e1
  obtain ⟨k1, -, k3, -⟩ := ct_fr (by decide) e1
  obtain ⟨g1, g2, g3, g4, g5, g6, g7, g8, g9⟩ := h
  have r5 : (sI σ1 17 0 1 0).2.2.1 21 0 5 = (10, cj) := (k3 21 0 5 rfl).trans g7
  have r6 : (sI σ1 17 0 1 0).2.2.1 21 0 6 = (10, ci) := (k3 21 0 6 rfl).trans g8
  have hs : ∀ t c k, (t = 10 ∨ (30 ≤ t ∧ t ≤ 38)) ∨ t = 14 ∨ t = 49 → (sI σ1 17 0 1 0).1 t c k = σ.1 t c k := fun t c k ht => by
    rw [gI, if_neg (by omega)]
    refine k1 t c k ?_
    show (t == 17 || t == 53 || t == 54) = false
    rw [show (t == 17) = false by simp; omega, show (t == 53) = false by simp; omega, show (t == 54) = false by simp; omega]; rfl
  have hF : ∀ c, F5 c σ → F5 c (sI σ1 17 0 1 0) := fun c hf i hi => by
    obtain ⟨f1, f2, f3⟩ := hf i hi
    exact ⟨by rw [hs _ _ _ (by omega)]; exact f1, by rw [hs _ _ _ (by omega)]; exact f2, fun j t hj => by rw [hs _ _ _ (by omega)]; exact f3 j t hj⟩
  have hP : ∀ c, P4 c σ → P4 c (sI σ1 17 0 1 0) := fun c hf p hp => by rw [hs _ _ _ (by omega)]; exact hf p hp
  have hr := c_read (X := X) (d := d) (ci := ci) (σ := sI σ1 17 0 1 0) hN ?_ (hF ci g2) (hP ci g4) ?_
  · rw [f_X11_load, q_X11_load_0, if_neg (i_nn (by omega)), hl, if_neg (by rw [i_lt (by omega) (by omega)]; omega), e1, bV_r, r6]
    have hoc : ∀ τ : sm_S, OC ci (sI σ1 17 0 1 0).1 τ → ∀ t k, (t = 10 ∨ (30 ≤ t ∧ t ≤ 38)) → τ.1 t cj k = σ.1 t cj k := fun τ ho t k ht => (ho t cj k (fun z => g9 z.symm) ht).trans (hs t cj k (Or.inl ht))
    cases hz : zText (zTk R n) 802 zA0 with
    | inl ee =>
      rw [hz] at hr
      obtain ⟨σ2, e2, F⟩ := hr
      have e2 : sm_callM X true (d + 401) 82 [vP (15, 0), vP (10, ci)] (sI σ1 17 0 1 0) = rV σ2 := e2
      obtain ⟨l1, -, l3, -⟩ := rd_fr (by decide) e2
      obtain ⟨c1, c2, c3, c4, -, -, c7⟩ := F
      rw [e2, bV_r, c3, if_neg c2]
      have ho := hoc σ2 c1.1.2
      refine ⟨_, rfl, c3, c4, ⟨CTx_s ho g1, c7, fun i hi => ?_, c1.2.2.2.2.2.2.1, fun p hp => ?_, ⟨c1.2.2.2.1, c1.2.2.2.2.1, c1.2.2.2.2.2.1⟩, (l3 21 0 5 rfl).trans r5, (l3 21 0 6 rfl).trans r6, g9⟩, ?_⟩
      · obtain ⟨f1, f2, f3⟩ := g3 i hi
        exact ⟨by rw [ho _ _ (by omega)]; exact f1, by rw [ho _ _ (by omega)]; exact f2, fun j t hj => by rw [ho _ _ (by omega)]; exact f3 j t hj⟩
      · rw [ho _ _ (by omega)]; exact g5 p hp
      · rw [l1 17 0 1 rfl, gI, if_pos ⟨rfl, rfl, rfl⟩]
    | inr y =>
      obtain ⟨y0, a⟩ := y
      obtain ⟨tI, -⟩ := Text_T (TK_of hN) 802 zA0 a y0 TI_0 (Nat.zero_le _) rfl hz
      rw [hz] at hr
      obtain ⟨σ2, e2, P⟩ := hr
      have e2 : sm_callM X true (d + 401) 82 [vP (15, 0), vP (10, ci)] (sI σ1 17 0 1 0) = rV σ2 := e2
      obtain ⟨l1, -, l3, -⟩ := rd_fr (by decide) e2
      obtain ⟨⟨-, -, -, -, -, -, -, -, -, p11⟩, p1, p2, -, c1, -⟩ := P
      have ho := hoc σ2 c1.1.2
      have s5 : σ2.2.2.1 21 0 5 = (10, cj) := (l3 21 0 5 rfl).trans r5
      have s6 : σ2.2.2.1 21 0 6 = (10, ci) := (l3 21 0 6 rfl).trans r6
      rw [zIW_0 tI.1.1, tI.2.2.2.2.1] at p1
      rw [zIW_0 tI.1.1] at p2
      have f5 := p2.2.2.1
      have e5 : (sR (sR σ2 21 0 6 (σ2.2.2.1 21 0 5)) 21 0 5 (σ2.2.2.1 21 0 6)).2.2.1 21 0 5 = (10, ci) := by rw [gR, if_pos ⟨rfl, rfl, rfl⟩]; exact s6
      rw [e2, bV_r, if_pos p11.1, e5, if_pos rfl, f_X0_ownProcs, q_X0_ownProcs_0, bI_r]
      have e9 : (sR (sR σ2 21 0 6 (σ2.2.2.1 21 0 5)) 21 0 5 (σ2.2.2.1 21 0 6)).1 10 ci 9 - 5 = Int32.ofNat (a_q a).length := by
        show σ2.1 10 ci 9 - 5 = _
        rw [p2.1]; exact (i_sub (p := 5))
      rw [e9]
      refine ⟨_, rfl, p11.1, p11.2, ⟨⟨p1, PQt_of p2⟩, fun i hi => ?_, f5, fun p hp => ?_, c1.2.2.2.2.2.2.1, ⟨c1.2.2.2.1, c1.2.2.2.2.1, c1.2.2.2.2.2.1⟩, e5, ?_, fun z => g9 z.symm⟩, ?_⟩
      · obtain ⟨f1, f2, f3⟩ := g3 i hi
        exact ⟨by rw [gRI, gRI, ho _ _ (by omega)]; exact f1, by rw [gRI, gRI, ho _ _ (by omega)]; exact f2, fun j t hj => by rw [gRI, gRI, ho _ _ (by omega)]; exact f3 j t hj⟩
      · rw [gRI, gRI, ho _ _ (by omega)]; exact g5 p hp
      · rw [gR, if_neg (by omega), gR, if_pos ⟨rfl, rfl, rfl⟩]; exact s5
      · rw [gRI, gRI, l1 17 0 1 rfl, gI, if_pos ⟨rfl, rfl, rfl⟩]
  · obtain ⟨t1, t2, t3⟩ := h1
    refine ⟨fun j hj => ?_, by rw [gI, if_neg (by omega)]; exact t2, ?_⟩
    · obtain ⟨b1, b2, b3⟩ := t1 j hj
      exact ⟨by rw [gI, if_neg (by omega)]; exact b1, by rw [gI, if_neg (by omega)]; exact b2, b3⟩
    · obtain ⟨b1, b2, b3, b4, b5⟩ := t3
      exact ⟨fun j => by rw [gI, if_neg (by omega)]; exact b1 j, by rw [gI, if_neg (by omega)]; exact b2, by rw [gI, if_neg (by omega)]; exact b3, b4, b5⟩
  · obtain ⟨n1, n2, n3⟩ := g6
    exact ⟨by rw [hs _ _ _ (by omega)]; exact n1, by rw [hs _ _ _ (by omega)]; exact n2, fun i hi => by rw [hs _ _ _ (by omega)]; exact n3 i hi⟩
end
