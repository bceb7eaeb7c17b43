section
/-! THE CLASS's RUN, WHOLE -/
variable {X : Nat × (Nat → Int32)} {d : Nat} {s σ σ' τ : sm_S} {W W' : zW} {B : Nat × Nat} {i k m j ci q pc q0 tgt n : Nat} {arg ty pl c nx a b : Int32} {x : zTx} {nm : Nat → Int32} {fu : Nat} {e : zI} {p : zP} {z : Int32 × Int32 × Int32 × zW × Nat} {d1 d3 d4 : sm_V}
/-- the yards are read from these alone -/
theorem CW_fr (hI : ∀ t i k, (t = 12 ∨ (t = 13 ∧ (k = 16 ∨ k = 17)) ∨ t = 16 ∨ t = 18 ∨ t = 19 ∨ t = 20 ∨ t = 39 ∨ t = 46) → σ'.1 t i k = σ.1 t i k) (hR : ∀ t i k, (t = 16 ∨ t = 18 ∨ t = 40 ∨ t = 41 ∨ t = 51 ∨ t = 56 ∨ t = 57) → σ'.2.2.1 t i k = σ.2.2.1 t i k) (hL : ∀ n, n < σ.2.2.2.2.1 51 → σ'.2.2.2.1 51 n = σ.2.2.2.1 51 n) (hC : ∀ t, (t = 16 ∨ t = 18 ∨ t = 19 ∨ t = 51) → σ'.2.2.2.2.1 t = σ.2.2.2.2.1 t) (hz : σ'.2.2.2.2.2.2.1 = σ.2.2.2.2.2.2.1 ∧ σ'.2.2.2.2.2.2.2 = σ.2.2.2.2.2.2.2) (h : CW W B σ) : CW W B σ' := by
  obtain ⟨⟨a1, a2, a3, a4⟩, ⟨b1, b2, b3, b4, b5, b6⟩, t, ⟨n1, n2, n3, n4⟩, ⟨o1, o2, o3, o4⟩, z1, z2⟩ := h
  refine ⟨⟨?_, ?_, fun v hv => ?_, fun v k hv => ?_⟩, ⟨?_, ?_, ?_, ?_, fun n hn => ?_, fun n i hn => ?_⟩, fun k hk => ⟨?_, ?_⟩, ⟨?_, ?_, fun t e he => ?_, fun t k ht => ?_⟩, ⟨?_, ?_, ?_, fun i y hi => ?_⟩, ?_, ?_⟩
  · rw [hI _ _ _ (by decide)]; exact a1
  · rw [hC _ (by decide)]; exact a2
  · obtain ⟨k1, k2, k3, k4⟩ := a3 v hv
    exact ⟨by rw [hR _ _ _ (by decide)]; exact k1, by rw [hI _ _ _ (by decide)]; exact k2, by rw [hI _ _ _ (by decide)]; exact k3, fun f hf => by rw [hI _ _ _ (by omega)]; exact k4 f hf⟩
  · rw [hI _ _ _ (by omega)]; exact a4 v k hv
  · rw [hI _ _ _ (by decide)]; exact b1
  · rw [hI _ _ _ (by decide)]; exact b2
  · rw [hC _ (by decide)]; exact b3
  · rw [hC _ (by decide)]; exact b4
  · obtain ⟨k1, k2, k3, k4, k5, k6, k7⟩ := b5 n hn
    exact ⟨by rw [hR _ _ _ (by decide)]; exact k1, by rw [hI _ _ _ (by decide)]; exact k2, by rw [hI _ _ _ (by decide)]; exact k3, by rw [hI _ _ _ (by decide)]; exact k4, by rw [hR _ _ _ (by decide)]; exact k5, by rw [hL n (by rw [b4]; exact hn)]; exact k6, fun i hi => by rw [hR _ _ _ (by omega)]; exact k7 i hi⟩
  · rw [hR _ _ _ (by omega)]; exact b6 n i hn
  · rw [hI _ _ _ (by omega)]; exact (t k hk).1
  · rw [hR _ _ _ (by omega)]; exact (t k hk).2
  · rw [hI _ _ _ (by decide)]; exact n1
  · rw [hC _ (by decide)]; exact n2
  · obtain ⟨k1, k2, k3, k4, k5, k6⟩ := n3 t e he
    exact ⟨by rw [hR _ _ _ (by omega)]; exact k1, by rw [hR _ _ _ (by omega)]; exact k2, by rw [hI _ _ _ (by omega)]; exact k3, by rw [hI _ _ _ (by omega)]; exact k4, by rw [hI _ _ _ (by omega)]; exact k5, by rw [hI _ _ _ (by omega)]; exact k6⟩
  · rw [hI _ _ _ (by omega)]; exact n4 t k ht
  · rw [hI _ _ _ (by decide)]; exact o1
  · rw [hI _ _ _ (by decide)]; exact o2
  · rw [hI _ _ _ (by decide)]; exact o3
  · rw [hI _ _ _ (by omega)]; exact o4 i y hi
  · rw [hz.1]; exact z1
  · rw [hz.2]; exact z2
theorem CW_i (hI : ∀ t i k, (t = 12 ∨ (t = 13 ∧ (k = 16 ∨ k = 17)) ∨ t = 16 ∨ t = 18 ∨ t = 19 ∨ t = 20 ∨ t = 39 ∨ t = 46) → σ'.1 t i k = σ.1 t i k) (h2 : σ'.2.2 = σ.2.2) (h : CW W B σ) : CW W B σ' :=
  CW_fr hI (fun t i k _ => by rw [h2]) (fun n _ => by rw [h2]) (fun t _ => by rw [h2]) (by rw [h2]; exact ⟨rfl, rfl⟩) h
theorem k7_cases {P : Nat → Prop} (h0 : P 0) (h1 : P 1) (h2 : P 2) (h3 : P 3) (h4 : P 4) (h5 : P 5) (h6 : P 6) : ∀ k, k < 7 → P k := by
  intro k hk
  have h : k = 0 ∨ k = 1 ∨ k = 2 ∨ k = 3 ∨ k = 4 ∨ k = 5 ∨ k = 6 := by omega
  rcases h with rfl | rfl | rfl | rfl | rfl | rfl | rfl
  · exact h0
  · exact h1
  · exact h2
  · exact h3
  · exact h4
  · exact h5
  · exact h6
theorem kp_n {x2 : Int32} (hx : WTx x) (h : CE x ci B z σ) (h20 : x2 = 0 ↔ z.1 ≠ 0) (hn : x2 = 0 ∨ ty = 36 ∨ ty = 38) : ∃ σ', sm_go (sm_ZZ X) sm_PP true (sm_callM X true (d + 4)) 43 49 [vP (13, 0), vI ty, vI x2, vI 0, vU] [vP (0, 0)] σ = rV σ' ∧ CW z.2.2.2.1 B σ' ∧ CTx x ci σ' ∧ CTd (tell ty z) σ' ∧ σ'.1 13 0 12 = z.1 ∧ σ'.2.2 = σ.2.2 := by
  obtain ⟨w, h1, h2, h3, h4, h5, h6, h7⟩ := h
  have hl := hx.2.2.2.1
  have hr0 : ¬ (z.1 = 0 ∧ cRef ty = 1 ∧ z.2.1 ≠ 0) := fun y => by
    rcases hn with q | q | q
    · exact h20.mp q y.1
    · rw [q] at y; exact absurd y.2.1 (by decide)
    · rw [q] at y; exact absurd y.2.1 (by decide)
  rw [kp_49n hn]
  generalize hv1 : (if x2 ≠ 0 ∧ ty = 36 then σ.1 13 0 14 else 0) = v1
  have e1 : v1 = if z.1 = 0 ∧ ty = 36 then z.2.1 else 0 := by
    rw [← hv1]
    by_cases q : x2 = 0
    · rw [if_neg (fun y => y.1 q), if_neg (fun y => h20.mp q y.1)]
    · have z0 : z.1 = 0 := Decidable.byContradiction (fun y => q (h20.mpr y))
      rw [h5 (Or.inl z0)]
      by_cases y : ty = 36
      · rw [if_pos ⟨q, y⟩, if_pos ⟨z0, y⟩]
      · rw [if_neg (fun w => y w.2), if_neg (fun w => y w.2)]
  have hI : ∀ t i k, ¬ (t = 13 ∧ i = 0 ∧ k = 6) → t ≠ 45 → (sI (sI (sI (sI (sI σ 13 0 6 1) 45 0 0 (σ.1 13 0 12)) 45 0 1 v1) 45 0 2 (-1)) 45 0 3 (-1)).1 t i k = σ.1 t i k := fun t i k y1 y2 => by
    rw [gI, if_neg (by omega), gI, if_neg (by omega), gI, if_neg (by omega), gI, if_neg (by omega), gI, if_neg y1]
  have t7 : (sI (sI (sI (sI (sI σ 13 0 6 1) 45 0 0 (σ.1 13 0 12)) 45 0 1 v1) 45 0 2 (-1)) 45 0 3 (-1)).2.2.1 13 0 7 = (10, ci) := h2
  have r2 : (sI (sI (sI (sI (sI σ 13 0 6 1) 45 0 0 (σ.1 13 0 12)) 45 0 1 v1) 45 0 2 (-1)) 45 0 3 (-1)).2.2 = σ.2.2 := rfl
  have v0 : (sI (sI (sI (sI (sI σ 13 0 6 1) 45 0 0 (σ.1 13 0 12)) 45 0 1 v1) 45 0 2 (-1)) 45 0 3 (-1)).1 45 0 0 = σ.1 13 0 12 := rfl
  have w1 : (sI (sI (sI (sI (sI σ 13 0 6 1) 45 0 0 (σ.1 13 0 12)) 45 0 1 v1) 45 0 2 (-1)) 45 0 3 (-1)).1 45 0 1 = v1 := rfl
  have v2 : (sI (sI (sI (sI (sI σ 13 0 6 1) 45 0 0 (σ.1 13 0 12)) 45 0 1 v1) 45 0 2 (-1)) 45 0 3 (-1)).1 45 0 2 = -1 := rfl
  have v3 : (sI (sI (sI (sI (sI σ 13 0 6 1) 45 0 0 (σ.1 13 0 12)) 45 0 1 v1) 45 0 2 (-1)) 45 0 3 (-1)).1 45 0 3 = -1 := rfl
  have v6 : (sI (sI (sI (sI (sI σ 13 0 6 1) 45 0 0 (σ.1 13 0 12)) 45 0 1 v1) 45 0 2 (-1)) 45 0 3 (-1)).1 13 0 6 = 1 := rfl
  generalize sI (sI (sI (sI (sI σ 13 0 6 1) 45 0 0 (σ.1 13 0 12)) 45 0 1 v1) 45 0 2 (-1)) 45 0 3 (-1) = τ at hI t7 r2 v0 w1 v2 v3 v6 ⊢
  have hpl : if x2 = 0 then (∀ t : sm_S, t.1 10 = τ.1 10 → (∀ k, 30 ≤ k → k ≤ 38 → t.1 k = τ.1 k) → sm_callM X true (d + 4) 21 [vP (10, ci), vI (τ.1 13 0 13)] t = rI z.2.2.1 t) else z.2.2.1 = -1 := by
    by_cases q : x2 = 0
    · rw [if_pos q]
      intro t h10 h38
      obtain ⟨k, e, g1, g2, g3, g4⟩ := h6 (h20.mp q)
      have ht : CTx x ci t := CTx_s (σ := σ) (fun u k hu => by
        rcases hu with hu | hu
        · rw [hu, h10, hI _ _ _ (by omega) (by omega)]
        · rw [h38 u hu.1 hu.2, hI _ _ _ (by omega) (by omega)]) h1
      have := (c_op (X := X) (d := d + 2) ht hl g1 g2).2.2
      rw [hI _ _ _ (by decide) (by decide), g3, ← g4]
      exact this
    · rw [if_neg q]
      exact h7 (Decidable.byContradiction (fun y => q (h20.mpr y)))
  rw [kp_151 t7 hpl, hI 13 0 11 (by decide) (by decide), hI 13 0 12 (by decide) (by decide), hI 13 0 14 (by decide) (by decide), h3, h4]
  refine ⟨_, rfl, CW_i (σ := σ) (fun t i k hk => ?_) r2 w, CTx_s (σ := σ) (fun t k hk => ?_) h1, ⟨v6, k7_cases ?_ ?_ ?_ ?_ ?_ ?_ ?_⟩, ?_, r2⟩
  · rw [gI, if_neg (by omega), gI, if_neg (by omega), gI, if_neg (by omega)]; exact hI _ _ _ (by omega) (by omega)
  · rw [gI, if_neg (by omega), gI, if_neg (by omega), gI, if_neg (by omega)]; exact hI _ _ _ (by omega) (by omega)
  · exact v0.trans h3
  · exact w1.trans e1
  · refine v2.trans ?_
    show _ = if z.1 = 0 ∧ cRef ty = 1 ∧ z.2.1 ≠ 0 then tyOf z.2.2.2.1 z.2.1 else -1
    rw [if_neg hr0]
  · refine v3.trans ?_
    show _ = if z.1 = 0 ∧ cRef ty = 1 ∧ z.2.1 ≠ 0 then (if z.2.1 < 0 then Int32.ofNat (rowAt z.2.2.2.1 (ixR z.2.1)).2.length else z.2.1 - 1) else -1
    rw [if_neg hr0]
  · rfl
  · show (if z.1 = 6 then σ.1 13 0 14 else 0) = if z.1 = 6 then z.2.1 else 0
    by_cases y : z.1 = 6
    · rw [if_pos y, if_pos y, h5 (Or.inr y)]
    · rw [if_neg y, if_neg y]
  · rfl
  · exact (hI 13 0 12 (by decide) (by decide)).trans h3
theorem c_keep (hx : WTx x) (hW : WW z.2.2.2.1) (h : CE x ci B z σ) (ht : ty = 36 ∨ ty = 38 ∨ cRef ty = 1) (hv : z.1 = 0 → VT z.2.2.2.1 ty z.2.1) : ∃ σ', sm_callM X true (d + 5) 43 [vP (13, 0), vI ty] σ = rV σ' ∧ CW z.2.2.2.1 B σ' ∧ CTx x ci σ' ∧ CTd (tell ty z) σ' ∧ σ'.1 13 0 12 = z.1 ∧ σ'.2.2 = σ.2.2 := by
  obtain ⟨w, h1, h2, h3, h4, h5, h6, h7⟩ := h
  have hl := hx.2.2.2.1
  rw [f_X3_keepRun, q_X3_keepRun_0, h3]
  by_cases z0 : z.1 = 0
  · rw [if_pos z0, q_X3_keepRun_12, if_neg (by decide), c_isReference, bI_r]
    have h5z := h5 (Or.inl z0)
    have hpl := h7 z0
    by_cases hr : cRef ty = 1
    · rw [if_neg (by rw [hr]; decide), q_X3_keepRun_29, if_neg (by decide), h5z]
      obtain ⟨qr, e1, τ, d4', e2, r1, r2, r3, r4, r5, r6, r7, r8⟩ := kp_49r (X := X) (d := d + 2) (d4 := vU) hW w (hv z0) hr (by rw [h3]; exact z0) h5z
      have e1 : sm_callM X true (d + 4) 162 [vP (20, 0), vI z.2.1] σ = rP qr σ := e1
      rw [e1, bP_r, e2]
      have t7 : τ.2.2.1 13 0 7 = (10, ci) := by rw [r1]; exact h2
      have e3 := kp_151 (X := X) (d := d + 4) (x2 := 1) (pl := -1) (d1 := vU) (d3 := vU) (d4 := d4') t7 (by rw [if_neg (by decide)])
      rw [e3, r4 13 0 11 (by decide) (by decide), r4 13 0 12 (by decide) (by decide), r4 13 0 14 (by decide) (by decide), h3, h4, if_neg (by rw [z0]; decide)]
      refine ⟨_, rfl, CW_i (σ := σ) (fun t i k hk => ?_) ?_ w, CTx_s (σ := σ) (fun t k hk => ?_) h1, ⟨?_, k7_cases ?_ ?_ ?_ ?_ ?_ ?_ ?_⟩, ?_, ?_⟩
      · rw [gI, if_neg (by omega), gI, if_neg (by omega), gI, if_neg (by omega)]; exact r4 _ _ _ (by omega) (by omega)
      · show (τ.2.2.1, τ.2.2.2) = (σ.2.2.1, σ.2.2.2); rw [r1, r2]
      · rw [gI, if_neg (by omega), gI, if_neg (by omega), gI, if_neg (by omega)]; exact r4 _ _ _ (by omega) (by omega)
      · exact r3
      · exact r5.trans z0.symm
      · refine Eq.trans (show _ = τ.1 45 0 1 from rfl) (r6.trans ?_)
        show _ = if z.1 = 0 ∧ ty = 36 then z.2.1 else 0
        rw [if_neg (fun y => by rw [y.2] at hr; exact absurd hr (by decide))]
      · refine Eq.trans (show _ = τ.1 45 0 2 from rfl) (r7.trans ?_)
        show _ = if z.1 = 0 ∧ cRef ty = 1 ∧ z.2.1 ≠ 0 then tyOf z.2.2.2.1 z.2.1 else -1
        by_cases y : z.2.1 = 0
        · rw [if_neg (fun q => q y), if_neg (fun q => q.2.2 y)]
        · rw [if_pos y, if_pos (show z.1 = 0 ∧ cRef ty = 1 ∧ z.2.1 ≠ 0 from ⟨z0, hr, y⟩)]
      · refine Eq.trans (show _ = τ.1 45 0 3 from rfl) (r8.trans ?_)
        show _ = if z.1 = 0 ∧ cRef ty = 1 ∧ z.2.1 ≠ 0 then (if z.2.1 < 0 then Int32.ofNat (rowAt z.2.2.2.1 (ixR z.2.1)).2.length else z.2.1 - 1) else -1
        by_cases y : z.2.1 = 0
        · rw [if_neg (fun q => q y), if_neg (fun q => q.2.2 y)]
        · rw [if_pos y, if_pos (show z.1 = 0 ∧ cRef ty = 1 ∧ z.2.1 ≠ 0 from ⟨z0, hr, y⟩)]
      · rfl
      · show (0 : Int32) = if z.1 = 6 then z.2.1 else 0
        rw [if_neg (by rw [z0]; decide)]
      · exact hpl.symm
      · exact (r4 13 0 12 (by decide) (by decide)).trans h3
      · show (τ.2.2.1, τ.2.2.2) = (σ.2.2.1, σ.2.2.2); rw [r1, r2]
    · have ht' : ty = 36 ∨ ty = 38 := by
        rcases ht with q | q | q
        · exact Or.inl q
        · exact Or.inr q
        · exact absurd q hr
      have hr0 : cRef ty = 0 := by rcases ht' with q | q <;> rw [q] <;> decide
      rw [if_pos hr0, q_X3_keepRun_29, if_pos rfl]
      exact kp_n hx ⟨w, h1, h2, h3, h4, h5, h6, h7⟩ ⟨fun y => absurd y (by decide), fun y => absurd z0 y⟩ (Or.inr ht')
  · rw [if_neg z0, q_X3_keepRun_12, if_pos rfl, q_X3_keepRun_29, if_pos rfl]
    exact kp_n hx ⟨w, h1, h2, h3, h4, h5, h6, h7⟩ ⟨fun _ => z0, fun _ => rfl⟩ (Or.inl rfl)
/-- the frames of a run that begins are typed -/
theorem MS_0 (hx : WTx x) (hW : WW W) (hp : x.2.2[k]? = some p) (hI : ∀ t ∈ p.2.2.1, t = 36) : MS x W k [(k, p.2.2.2, nm, [])] := by
  refine ⟨hx, hW, FsOk_land (hx.2.2.1 k p hp) VTs_nil (fun y hy => Or.inl ?_) ⟨p, hp, rfl⟩ trivial, by show 1 ≤ 15; omega, rfl⟩
  exact hI _ (List.mem_of_getElem? (kPar_mem hy))
theorem run_0 (hx : WTx x) (hW : WW W) (hp : x.2.2[k]? = some p) (hI : ∀ t ∈ p.2.2.1, t = 36) (hfu : fu ≤ 2000) : ∃ z, runM x 4000000 W [(k, p.2.2.2, nm, [])] fu = .inr z ∧ MOk x W k (.inr z) := by
  refine run_ends hx 4000000 W _ fu (MS_0 hx hW hp hI) ?_
  have := rhoF_le (l := x.1) (F := [(k, p.2.2.2, nm, [])])
  have := hx.2.2.2.1
  unfold pot
  show 1810 * fu + 902 * 1 + _ < _
  omega
theorem c_run42 (hx : WTx x) (hW : WW W) (hC : CW W B σ) (hT : CTx x ci σ) (hp : x.2.2[k]? = some p) (h2 : p.2.2.1.length ≤ 2) (hI : ∀ t ∈ p.2.2.1, t = 36) (hfu : fu ≤ 2000) (hty : p.2.1 = 36 ∨ p.2.1 = 38 ∨ cRef p.2.1 = 1) (hr : runM x 4000000 W [(k, p.2.2.2, nm0 a b, [])] fu = .inr z) : ∃ σ', sm_callM X true (d + 11) 42 [vP (13, 0), vP (10, ci), vI (Int32.ofNat (5 + k)), vI a, vI b, vI (Int32.ofNat fu)] σ = rI z.1 σ' ∧ CW z.2.2.2.1 B σ' ∧ CTx x ci σ' ∧ CTd (tell p.2.1 z) σ' := by
  obtain ⟨z', hr', hok⟩ := run_0 (fu := fu) (nm := nm0 a b) hx hW hp hI hfu
  have hz : z' = z := by rw [hr] at hr'; exact (Sum.inr.inj hr').symm
  subst hz
  have hpot : pot x [(k, p.2.2.2, nm0 a b, [])] fu < 4000000 := by
    have := rhoF_le (l := x.1) (F := [(k, p.2.2.2, nm0 a b, [])])
    have := hx.2.2.2.1
    unfold pot
    show 1810 * fu + 902 * 1 + _ < _
    omega
  obtain ⟨τ, d4, e1, hM⟩ := c_start1 (X := X) (d := d) (a := a) (b := b) (fu := fu) hx hC hT hp h2
  obtain ⟨τ', i', f1, f3, f4, f5, f7, f8, hi', e2, hE⟩ := c_loop (X := X) (d := d) (p := Int32.ofNat (5 + k)) (ci := ci) (B := B) hx 4000000 W _ fu 0 τ vU vU d4 vU vU vU z' (MS_0 hx hW hp hI) hpot (by omega) (by omega) hM hr
  obtain ⟨w, h1, h3, h4, h5, h6, h7, h8⟩ := id hE
  obtain ⟨-, ok2, ⟨n, n10, hn⟩, ok4⟩ := hok
  have hne : ¬ z'.1 = 10 := fun y => by
    rw [hn, show (10 : Int32) = Int32.ofNat 10 from rfl, i_eq (by omega) (by omega)] at y
    omega
  obtain ⟨-, g2, -⟩ := c_procOf (X := X) (d := d + 8) h1 hp
  have g2 : sm_callM X true (d + 10) 10 [vP (10, ci), vI (Int32.ofNat (5 + k))] τ' = rI p.2.1 τ' := g2
  obtain ⟨σ', k1, k2, k3, k4, k5, k6⟩ := c_keep (X := X) (d := d + 5) (ty := p.2.1) hx ok2 hE hty (fun y => by
    obtain ⟨p', q1, q2⟩ := ok4 y
    rw [hp] at q1
    cases q1
    exact q2)
  have k1 : sm_callM X true (d + 10) 43 [vP (13, 0), vI p.2.1] τ' = rV σ' := k1
  rw [e1, e2]
  unfold lpC
  rw [q_X3_start_79, if_pos (lp_lt hi'), h4, if_neg hne, h3, if_pos rfl, g2, bI_r, k1, bV_r, k5]
  exact ⟨σ', rfl, k2, k3, k4⟩
end
