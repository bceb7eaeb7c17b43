section
/-! PLACES, FIELDS, AS AND IS IN THE REFERENCE -/
variable {X : Nat × (Nat → Int32)} {d : Nat} {s σ : sm_S} {mi N : Nat} {O : Nat → Nat → Nat → Int32} {T : zT} {a b : zA} {t : Int32} {sub : zA → zR}
theorem w_of (h : wOk a) : (a_w a).1 = 0 ∨ (a_w a).1 = 5 ∨ ((a_w a).1 = 15 ∧ (a_w a).2.1 = 0) ∨ (a_w a).1 = 17 := by
  rcases h with h | h | h | h
  · exact Or.inl h.1
  · exact Or.inr (Or.inl h.1)
  · exact Or.inr (Or.inr (Or.inl ⟨h.1, h.2.2⟩))
  · exact Or.inr (Or.inr (Or.inr h.1))
theorem mRow_b (x : Int32) : mRow x = 0 ↔ ¬ (¬ x < 18 ∧ x < 36) := by
  unfold mRow
  by_cases q1 : x < 18
  · rw [if_pos q1]; exact ⟨fun _ z => z.1 q1, fun _ => rfl⟩
  · rw [if_neg q1]
    by_cases q2 : x < 36
    · rw [if_pos q2]; exact ⟨fun z => absurd z (by decide), fun z => absurd ⟨q1, q2⟩ z⟩
    · rw [if_neg q2]; exact ⟨fun _ z => q2 z.2, fun _ => rfl⟩
theorem rem_row : ∀ n, n < 39 → ¬ Int32.ofNat n < 18 → Int32.ofNat n < 36 → Int32.ofNat n - Int32.ofNat n / 18 * 18 = Int32.ofNat n - 18 := by decide +kernel
/-- X [ E ] -/
theorem m_element (hT : TK T N) (hD : SubD sub) (h : PM mi O T N a σ) (hk : T.1 (a_p a) = 91) (hw : wOk a) (ho : a_o a ≤ 10) (hs : a_o a < 10 → HM X d mi O T N sub (a_o a + 1)) (hb : nW a ≤ a_p a) (hty : tyA a) (ht : tyOk t) : SMI mi O T N (sm_callM X true (d + 11) 241 [vP (23, 0), vI t] σ) (zIdx T sub t a) := by
  have hzl : zL a ≤ nW a := Nat.le_add_right _ _
  have hp0 := h.1.2.1
  have hp8 := PM_len h
  obtain ⟨σ0, e0, hr⟩ := m_reads (X := X) (d := d + 8) h (by omega) (w_of hw)
  rw [f_X13_element, q_X13_element_0, e0, bV_r]
  unfold zIdx
  have pr := p_reads (a := a)
  have lr := (nW_reads (a := a)).1
  have xr := eqx_reads (a := a)
  refine mbVI (m_opens (d := d + 7) hT hr (by decide) (by rw [xr.2.2.2.2.2.2.2.1]; exact ho)) (fun _ a1 σ1 e1 h1 => ?_)
  obtain ⟨c1, n1, e1⟩ := zOpens_inr.mp e1
  have E1 : a1 = aP (aO (zReads a) (a_o (zReads a) + 1)) (a_p (zReads a) + 1) := congrArg Prod.snd e1
  have ho' : a_o (zReads a) = a_o a := xr.2.2.2.2.2.2.2.1
  have o1 : a_o a1 = a_o a + 1 := by rw [E1]; show a_o (zReads a) + 1 = _; rw [ho']
  have b1 : zL a1 ≤ a_p a1 := by
    rw [E1]; show zL (zReads a) ≤ a_p (zReads a) + 1
    rw [lr, pr]; omega
  have t1 : tyA a1 := by
    rw [E1]; exact (show tyA (zReads a) from tyA_eq xr hty)
  refine mbII (hs (by omega) 10 a1 σ1 h1 o1 b1 t1) (fun u a2 σ2 e2 h2 => ?_)
  obtain ⟨-, b2, t2, l2, o2, -, -⟩ := sub_b hD (PM_len h1) b1 t1 e2
  rw [m_is h2 (by decide), bI_r]
  refine mfI (d := d + 8) h2 bz (fun c2 => ?_)
  rw [m_isRow, bI_r]
  have key : ∀ y : Int32, (y = 0 ↔ ¬ ((¬ t < 18 ∧ t < 36) ∧ u = 36)) → SMI mi O T N (sm_go (sm_ZZ X) sm_PP true (sm_callM X true (d + 10)) 241 49 [vP (23, 0), vI t, vI (σ0.1 23 0 11), vI u] [vI y, vP (23, 0)] σ2) (if (¬ t < 18 ∧ t < 36) ∧ u = 36 then pb (zN (aO a2 (a_o a2 - 1))) (fun _ a3 => .inr (t - 18, aW (aS a3 2) (15, 0, T.2.2.2 (a_p a), t - 18))) else .inl (4, a_p a2)) := by
    intro y hy
    have hp2 := h2.1.2.1
    have hp28 := PM_len h2
    rw [q_X13_element_49, if_pos rfl, PM_at h2, PM_at hr, pr]
    refine mtI (d := d + 8) h2 hy hp2 (by omega) (fun c3 => ?_)
    refine mnI (d := d + 8) hT (PM_close h2 (by omega) (by omega)) (by show T.1 (a_p a2) ≠ 6; rw [c2]; decide) (by show T.1 (a_p a2) ≠ 7; rw [c2]; decide) (fun σ3 n3 h3 => ?_)
    obtain ⟨σ4, e4, h4, -⟩ := m_waits (X := X) (d := d + 9) (n := 2) (op := 15) (x := 0) (ty := t - 18) h3 (Or.inr (Or.inl ⟨rfl, rfl⟩)) hp0 hp8
    have e4 : sm_callM X true (d + 10) 226 [vP (23, 0), vI 2, vI 0, vI (Int32.ofNat (a_p a))] σ3 = rV σ4 := e4
    rw [e4, bV_r]
    obtain ⟨n, hn, rfl⟩ := ty39 ht
    rw [rem_row n hn c3.1.1 c3.1.2]
    exact ⟨_, rfl, h4⟩
  by_cases q : ¬ t < 18 ∧ t < 36
  · rw [if_neg (fun z => (mRow_b t).mp z q)]
    by_cases q2 : u = 36
    · rw [if_pos q2]; exact key 1 ⟨fun z => absurd z (by decide), fun z => absurd ⟨q, q2⟩ z⟩
    · rw [if_neg q2]; exact key 0 ⟨fun _ z => q2 z.2, fun _ => rfl⟩
  · rw [if_pos ((mRow_b t).mpr q)]
    exact key 0 ⟨fun _ z => q z.1, fun _ => rfl⟩
theorem m_ownerOf {i : Nat} (hi : i < 9) : sm_callM X true (d + 1) 243 [vI (Int32.ofNat i)] s = rI (fOwn (Int32.ofNat i)) s := by
  rw [f_X13_ownerOf, q_X13_ownerOf_0]
  rcases (show i = 0 ∨ i = 1 ∨ i = 2 ∨ i = 3 ∨ i = 4 ∨ i = 5 ∨ i = 6 ∨ i = 7 ∨ i = 8 by omega) with rfl | rfl | rfl | rfl | rfl | rfl | rfl | rfl | rfl <;> rfl
theorem own_ty : ∀ n, n < 9 → tyOk (fOwn (Int32.ofNat n)) := by
  intro n hn
  have : ∀ n, n < 9 → cRef (fOwn (Int32.ofNat n)) = 1 := by decide
  exact Or.inr (Or.inr (this n hn))
theorem cFit_z (x y : Int32) : cFit x y = 0 ↔ ¬ cFit x y = 1 := by
  rcases cFit_01 x y with z | z
  · rw [z]; decide
  · rw [z]; decide
theorem cAsk_z (x y : Int32) : cAsk x y = 0 ↔ ¬ cAsk x y = 1 := by
  rcases cAsk_01 x y with z | z
  · rw [z]; decide
  · rw [z]; decide
/-- .FIELD, .size -/
theorem m_field (hT : TK T N) (h : PM mi O T N a σ) (hk : T.1 (a_p a) = 46) (hw : wOk a) (hb : nW a ≤ a_p a) (ht : tyOk t) : SMI mi O T N (sm_callM X true (d + 11) 244 [vP (23, 0), vI t] σ) (zMem T t a) := by
  have hzl : zL a ≤ nW a := Nat.le_add_right _ _
  have hp8 := PM_len h
  obtain ⟨σ0, e0, hr⟩ := m_reads (X := X) (d := d + 8) h (by omega) (w_of hw)
  rw [f_X13_field, q_X13_field_0, e0, bV_r]
  unfold zMem
  have pr := p_reads (a := a)
  have lr := (nW_reads (a := a)).1
  have wr : (zReads a).2.2.1 = (0, 0, 0, 0) := w_reads
  refine mnI (d := d + 8) hT hr (by rw [pr, hk]; decide) (by rw [pr, hk]; decide) (fun σ1 n1 h1 => ?_)
  have l1 : zL (aP (zReads a) (a_p (zReads a) + 1)) < 900 := by show zL (zReads a) < 900; omega
  generalize aP (zReads a) (a_p (zReads a) + 1) = a1 at h1 l1 ⊢
  have hp1 := h1.1.2.1
  have hp18 := PM_len h1
  have mw := m_isWord (X := X) (d := d + 9) (j := 14) h1 (by omega)
  have mw : sm_callM X true (d + 10) 205 [vP (23, 0), vI 14] σ1 = rI (if T.1 (a_p a1) = 214 then 1 else 0) σ1 := mw
  rw [mw, bI_r]
  by_cases q : T.1 (a_p a1) = 214
  · rw [if_pos q, if_neg (by decide), if_pos q, m_isRow, bI_r, PM_at h1]
    refine mtI (d := d + 8) h1 (mRow_b t) hp1 (by omega) (fun c2 => ?_)
    refine meI (d := d + 9) (op := 19) (tk := a_p a1) (arg := 0) (ty := 36) (pl := T.2.2.2 (a_p a1)) (tgt := 0) h1 l1 rfl (Nat.zero_le _) rfl rfl rfl (Or.inr ⟨rfl, hp1, by omega, rfl⟩) (fun σ2 h2 => ?_)
    exact mnI (d := d + 8) hT h2 (by show T.1 (a_p a1) ≠ 6; rw [q]; decide) (by show T.1 (a_p a1) ≠ 7; rw [q]; decide) (fun σ3 n3 h3 => ⟨_, rfl, PM_s0 h3⟩)
  · rw [if_neg q, if_pos rfl, if_neg q, PM_ix h1, PM_kd h1]
    have key : ∀ y : Int32, (y = 0 ↔ ¬ T.1 (a_p a1) = 3) → SMI mi O T N (sm_go (sm_ZZ X) sm_PP true (sm_callM X true (d + 10)) 244 74 [vP (23, 0), vI t, vI (σ1.1 23 0 11), vU] [vI y, vP (23, 0)] σ1) (if T.1 (a_p a1) = 3 then (if whr (T.2.1 (a_p a1)) sm_fields 0 = -1 then .inl (2, a_p a1) else if cFit t (fOwn (whr (T.2.1 (a_p a1)) sm_fields 0)) = 1 then pb (zN a1) (fun _ a2 => .inr (if whr (T.2.1 (a_p a1)) sm_fields 0 = 1 then 0 else 36, aW (aS a2 3) (17, whr (T.2.1 (a_p a1)) sm_fields 0, T.2.2.2 (a_p a1), if whr (T.2.1 (a_p a1)) sm_fields 0 = 1 then 0 else 36))) else .inl (4, a_p a1))
    else .inl (1, a_p a1)) := by
      intro y hy
      rw [q_X13_field_74, if_pos rfl]
      refine mfI (d := d + 8) h1 hy (fun c2 => ?_)
      have hn := hT.2.2.2.1 _ c2
      rw [PM_ix h1, PM_nm h1 c2, m_fieldOf (d := d + 4) hn, bI_r, PM_at h1]
      rcases fields_d (T.2.1 (a_p a1)) with hf | ⟨i, hi, hf⟩
      · rw [hf, if_pos rfl, if_pos rfl]
        exact mThI (d := d + 9) h1 hp1 (by omega)
      · rw [hf, if_neg (i_m1 i (by omega)), if_neg (i_m1 i (by omega)), m_ownerOf hi, bI_r, m_fit (d := d + 6) ht (own_ty i hi), bI_r, PM_at h1]
        refine mtI (d := d + 8) h1 (cFit_z _ _) hp1 (by omega) (fun c3 => ?_)
        refine mnI (d := d + 8) hT h1 (by rw [c2]; decide) (by rw [c2]; decide) (fun σ3 n3 h3 => ?_)
        obtain ⟨σ4, e4, h4, -⟩ := m_waits (X := X) (d := d + 9) (n := 3) (op := 17) (x := Int32.ofNat i) (ty := if Int32.ofNat i = 1 then 0 else 36) h3 (Or.inr (Or.inr ⟨rfl, rfl⟩)) hp1 hp18
        have e4 : sm_callM X true (d + 10) 226 [vP (23, 0), vI 3, vI (Int32.ofNat i), vI (Int32.ofNat (a_p a1))] σ3 = rV σ4 := e4
        rw [e4, bV_r]
        by_cases q9 : Int32.ofNat i = 1
        · rw [if_pos q9, if_pos q9]
          rw [if_pos q9] at h4
          exact ⟨_, rfl, h4⟩
        · rw [if_neg q9, if_neg q9]
          rw [if_neg q9] at h4
          exact ⟨_, rfl, h4⟩
    by_cases q3 : T.1 (a_p a1) = 3
    · rw [if_pos ((mkd_v _).1.mpr q3)]
      exact key 1 ⟨fun z => absurd z (by decide), fun z => absurd q3 z⟩
    · rw [if_neg (fun z => q3 ((mkd_v _).1.mp z))]
      exact key 0 ⟨fun _ => q3, fun _ => rfl⟩
theorem tk_n (hT : TK T N) {p : Nat} (hp : p ≤ 800) (hpN : p ≤ N) (h6 : T.1 p ≠ 6) (h7 : T.1 p ≠ 7) : p + 1 ≤ N := by
  rcases Nat.lt_or_ge p N with z | z
  · exact z
  · exfalso
    have e : p = N := by omega
    rw [e] at h6 h7 hp
    rcases hT.2.2.1 with w | w | w
    · exact h6 w
    · exact h7 w
    · omega
/-- the token behind: is it the sign c? -/
theorem m_nx {c : Int32} {A B : sm_R} (hT : TK T N) (h : PM mi O T N a σ) (h6 : T.1 (a_p a) ≠ 6) (h7 : T.1 (a_p a) ≠ 7) (hc : mkd c = 4 ∧ c ≠ 1 ∧ c ≠ 2 ∧ c ≠ 300 ∧ c ≠ 301) : (sm_ix (σ.1 23 0 11 + 1) 803 fun z => if σ.1 68 0 z = 4 then (sm_ix (σ.1 23 0 11 + 1) 803 fun z => if lg_cmp (σ.2.1 70 0 z) c.toInt64 = 0 then A else B) else B) = if T.1 (a_p a + 1) = c then A else B := by
  have hp := PM_len h
  have hN := tk_n hT hp h.1.2.1 h6 h7
  obtain ⟨k1, -, k3⟩ := h.1.2.2.1 (a_p a + 1) hN
  rw [PM_at h, i_s, ix_nat (by omega) (by decide), k1]
  by_cases q : mkd (T.1 (a_p a + 1)) = 4
  · obtain ⟨n3, n200, n456, n7⟩ := mkd_4 q
    rw [if_pos q, ix_nat (by omega) (by decide), k3 n7]
    have hv : (lg_cmp (mvl T (a_p a + 1)) c.toInt64 = 0) ↔ T.1 (a_p a + 1) = c := by
      rw [lgc]
      unfold mvl
      rw [if_neg n3, if_neg n200, if_neg n456]
      by_cases k1 : T.1 (a_p a + 1) = 1
      · rw [if_pos k1, k1]
        exact ⟨fun z => absurd (i64_inj (x := 300) z).symm hc.2.2.2.1, fun z => absurd z.symm hc.2.1⟩
      · rw [if_neg k1]
        by_cases k2 : T.1 (a_p a + 1) = 2
        · rw [if_pos k2, k2]
          exact ⟨fun z => absurd (i64_inj (x := 301) z).symm hc.2.2.2.2, fun z => absurd z.symm hc.2.2.1⟩
        · rw [if_neg k2]
          exact ⟨fun z => i64_inj z, fun z => by rw [z]⟩
    by_cases k : T.1 (a_p a + 1) = c
    · rw [if_pos (hv.mpr k), if_pos k]
    · rw [if_neg (fun z => k (hv.mp z)), if_neg k]
  · rw [if_neg q, if_neg (fun z => q (by rw [z]; exact hc.1))]
theorem tV_lt (hT : TK T N) {p : Nat} (h : T.1 p = 5) : tV T p < 36 ↔ tV T p ≠ 36 := by
  rcases tV_k hT h with ⟨k, hk, e⟩ | e
  · rw [e]
    have : ∀ k, k < 18 → (Int32.ofNat k < 36 ∧ Int32.ofNat k ≠ 36) := by decide
    exact ⟨fun _ => (this k hk).2, fun _ => (this k hk).1⟩
  · rw [e]; decide
theorem ask_d : ∀ k, k < 18 → (18 + Int32.ofNat k ≠ 37 ∧ 18 + Int32.ofNat k ≠ 38 ∧ Int32.ofNat k ≠ 37 ∧ Int32.ofNat k ≠ 38) := by decide
/-- as and is -/
theorem m_asked (hT : TK T N) (h : PM mi O T N a σ) (hk : T.1 (a_p a) = 213 ∨ T.1 (a_p a) = 212) (hw : wOk a) (hb : nW a ≤ a_p a) (ht : tyOk t) : SMI mi O T N (sm_callM X true (d + 11) 245 [vP (23, 0), vI t] σ) (zAsk T t a) := by
  have hzl : zL a ≤ nW a := Nat.le_add_right _ _
  have hp0 := h.1.2.1
  have hp8 := PM_len h
  obtain ⟨σ0, e0, hr⟩ := m_reads (X := X) (d := d + 8) h (by omega) (w_of hw)
  rw [f_X13_asked, q_X13_asked_0, e0, bV_r]
  unfold zAsk
  have pr := p_reads (a := a)
  have lr := (nW_reads (a := a)).1
  have mw : sm_callM X true (d + 10) 205 [vP (23, 0), vI 13] σ0 = rI (if T.1 (a_p (zReads a)) = 213 then 1 else 0) σ0 := m_isWord (X := X) (d := d + 9) (j := 13) hr (by omega)
  rw [mw, bI_r, pr]
  generalize hxx : (if T.1 (a_p a) = 213 then (1 : Int32) else 0) = xx
  refine mnI (d := d + 8) hT hr (by rw [pr]; rcases hk with z | z <;> rw [z] <;> decide) (by rw [pr]; rcases hk with z | z <;> rw [z] <;> decide) (fun σ1 n1 h1 => ?_)
  have l1 : zL (aP (zReads a) (a_p (zReads a) + 1)) < 900 := by show zL (zReads a) < 900; omega
  generalize aP (zReads a) (a_p (zReads a) + 1) = a1 at h1 l1 ⊢
  rw [PM_ix h1, PM_kd h1, PM_at hr, pr]
  have fin : ∀ (u x : Int32) (a3 : zA) (σ3 : sm_S), PM mi O T N a3 σ3 → zL a3 < 900 → tyOk u → u ≠ 37 → u ≠ 38 → T.1 (a_p a3) ≠ 6 → T.1 (a_p a3) ≠ 7 → (x = if T.1 (a_p a) = 213 then 1 else 0) → SMI mi O T N (sm_go (sm_ZZ X) sm_PP true (sm_callM X true (d + 10)) 245 115 [vP (23, 0), vI t, vI (Int32.ofNat (a_p a)), vI x, vI u] [] σ3) (if cAsk t u = 1 then pb (zN a3) (fun _ a4 => if T.1 (a_p a) = 213 then .inr (u, aS (zE a4 13 u 0 u (T.2.2.2 (a_p a))) 0) else .inr (36, aS (zE a4 14 u 0 36 (T.2.2.2 (a_p a))) 0)) else .inl (4, a_p a3)) := by
    intro u x a3 σ3 h3 l3 hu h37 h38 k6 k7 hx
    have hp3 := h3.1.2.1
    have hp38 := PM_len h3
    rw [q_X13_asked_115, m_ask (d := d + 6) ht hu h37 h38, bI_r, PM_at h3]
    refine mtI (d := d + 8) h3 (cAsk_z _ _) hp3 (by omega) (fun c3 => ?_)
    refine mnI (d := d + 8) hT h3 k6 k7 (fun σ4 n4 h4 => ?_)
    by_cases q : T.1 (a_p a) = 213
    · rw [if_pos q] at hx
      rw [hx, if_neg (by decide), q_X13_asked_145, if_pos rfl, if_pos q]
      refine meI (d := d + 9) (op := 13) (tk := a_p a) (arg := u) (ty := u) (pl := T.2.2.2 (a_p a)) (tgt := 0) h4 l3 rfl (Nat.zero_le _) rfl rfl rfl (Or.inr ⟨rfl, hp0, by omega, rfl⟩) (fun σ5 h5 => ?_)
      rw [if_neg (by decide)]
      exact ⟨_, rfl, PM_s0 h5⟩
    · rw [if_neg q] at hx
      rw [hx, if_pos rfl, q_X13_asked_145, if_pos rfl, if_neg q]
      refine meI (d := d + 9) (op := 14) (tk := a_p a) (arg := u) (ty := 36) (pl := T.2.2.2 (a_p a)) (tgt := 0) h4 l3 rfl (Nat.zero_le _) rfl rfl rfl (Or.inr ⟨rfl, hp0, by omega, rfl⟩) (fun σ5 h5 => ?_)
      rw [if_pos rfl]
      exact ⟨_, rfl, PM_s0 h5⟩
  have key : ∀ y : Int32, (y = 0 ↔ ¬ T.1 (a_p a1) = 5) → SMI mi O T N (sm_go (sm_ZZ X) sm_PP true (sm_callM X true (d + 10)) 245 39 [vP (23, 0), vI t, vI (Int32.ofNat (a_p a)), vI xx, vU] [vI y, vP (23, 0)] σ1) (zAskT T t a1 (fun u a2 => if T.1 (a_p a) = 213 then .inr (u, aS (zE a2 13 u 0 u (T.2.2.2 (a_p a))) 0) else .inr (36, aS (zE a2 14 u 0 36 (T.2.2.2 (a_p a))) 0))) := by
    intro y hy
    rw [q_X13_asked_39, if_pos rfl]
    unfold zAskT
    refine mfI (d := d + 8) h1 hy (fun c1 => ?_)
    have k6 : T.1 (a_p a1) ≠ 6 := by rw [c1]; decide
    have k7 : T.1 (a_p a1) ≠ 7 := by rw [c1]; decide
    rw [PM_ix h1, PM_ty h1 c1]
    have hv : tyOk (tV T (a_p a1)) := tyOk_tV hT c1
    have hnn : tV T (a_p a1) ≠ 37 ∧ tV T (a_p a1) ≠ 38 := by
      rcases tV_k hT c1 with ⟨k, hk, e⟩ | e
      · rw [e]; exact ⟨(ask_d k hk).2.2.1, (ask_d k hk).2.2.2⟩
      · rw [e]; decide
    show SMI mi O T N (if tV T (a_p a1) < 36 then _ else _) _
    by_cases q : tV T (a_p a1) = 36
    · rw [if_neg (fun z => ((tV_lt hT c1).mp z) q), if_neg (fun z => z.1 q)]
      exact fin (tV T (a_p a1)) _ a1 σ1 h1 l1 hv hnn.1 hnn.2 k6 k7 hxx.symm
    · rw [if_pos ((tV_lt hT c1).mpr q)]
      have nx := m_nx (A := sm_bV (sm_callM X true (d + 10) 203 [vP (23, 0)] σ1) sm_tw fun s7 => sm_bV (sm_callM X true (d + 10) 203 [vP (23, 0)] s7) sm_tw fun s9 => sm_bI (sm_callM X true (d + 10) 204 [vP (23, 0), vI 93] s9) sm_tw fun y10 s11 => sm_bV (sm_callM X true (d + 10) 201 [vP (23, 0), vI y10] s11) sm_tw fun s13 => sm_go (sm_ZZ X) sm_PP true (sm_callM X true (d + 10)) 245 115 [vP (23, 0), vI t, vI (Int32.ofNat (a_p a)), vI xx, vI ((T.2.2.1 (a_p a1)).toInt32 + 18)] [] s13) (B := sm_go (sm_ZZ X) sm_PP true (sm_callM X true (d + 10)) 245 115 [vP (23, 0), vI t, vI (Int32.ofNat (a_p a)), vI xx, vI (T.2.2.1 (a_p a1)).toInt32] [] σ1) (c := 91) hT h1 k6 k7 (by decide)
      refine Eq.mpr (congrArg (fun r => SMI mi O T N r _) nx) ?_
      by_cases q2 : T.1 (a_p a1 + 1) = 91
      · rw [if_pos q2, if_pos ⟨q, q2⟩]
        refine mnI (d := d + 8) hT h1 k6 k7 (fun σ2 n2 h2 => ?_)
        refine mnI (d := d + 8) hT h2 (by show T.1 (a_p a1 + 1) ≠ 6; rw [q2]; decide) (by show T.1 (a_p a1 + 1) ≠ 7; rw [q2]; decide) (fun σ3 n3 h3 => ?_)
        rw [m_is h3 (by decide), bI_r]
        refine mfI (d := d + 8) h3 bz (fun c3 => ?_)
        have hrow : tyOk (18 + tV T (a_p a1)) := tyOk_row hT c1 q
        have hr2 : 18 + tV T (a_p a1) ≠ 37 ∧ 18 + tV T (a_p a1) ≠ 38 := by
          rcases tV_k hT c1 with ⟨k, hk, e⟩ | e
          · rw [e]; exact ⟨(ask_d k hk).1, (ask_d k hk).2.1⟩
          · exact absurd e q
        rw [Int32.add_comm]
        exact fin (18 + tV T (a_p a1)) _ _ σ3 h3 l1 hrow hr2.1 hr2.2 (by rw [c3]; decide) (by rw [c3]; decide) hxx.symm
      · rw [if_neg q2, if_neg (fun z => q2 z.2)]
        exact fin (tV T (a_p a1)) _ a1 σ1 h1 l1 hv hnn.1 hnn.2 k6 k7 hxx.symm
  by_cases q3 : T.1 (a_p a1) = 5
  · rw [if_pos ((mkd_v _).2.1.mpr q3)]
    exact key 1 ⟨fun z => absurd z (by decide), fun z => absurd q3 z⟩
  · rw [if_neg (fun z => q3 ((mkd_v _).2.1.mp z))]
    exact key 0 ⟨fun _ => q3, fun _ => rfl⟩
end
