section
/-! FIRSTS, UNITS, PRODUCTS, SUMS AND EXPRESSIONS IN THE REFERENCE -/
variable {X : Nat × (Nat → Int32)} {d : Nat} {s σ : sm_S} {mi N : Nat} {O : Nat → Nat → Nat → Int32} {T : zT} {a b : zA} {t : Int32} {sub : zA → zR}
theorem SMI_r {r : sm_R} {z : zR} (h : SMI mi O T N r z) : SMI mi O T N (sm_bI r sm_tw (fun y s => some (some (some (vI y)), s))) z := by
  rcases z with e | x
  · obtain ⟨σ', rfl, F⟩ := h; exact ⟨σ', rfl, F⟩
  · obtain ⟨σ', rfl, P⟩ := h; exact ⟨σ', rfl, P⟩
theorem m_w {j : Nat} {c w : Int32} (h : PM mi O T N a σ) (hj : j < 15) (hc : c = 200 + Int32.ofNat j) (hw : w = Int32.ofNat j) : sm_callM X true (d + 1) 205 [vP (23, 0), vI w] σ = rI (if T.1 (a_p a) = c then 1 else 0) σ := by
  subst hc hw; exact m_isWord h hj
/-- the value of a name -/
theorem m_name226 {v2 : sm_V} (hT : TK T N) (h : PM mi O T N a σ) (k3 : T.1 (a_p a) = 3) : SMI mi O T N (sm_go (sm_ZZ X) sm_PP true (sm_callM X true (d + 11)) 236 226 [vP (23, 0), vI (Int32.ofNat (a_p a)), v2] [] σ) (zNmV T a) := by
  have hn := hT.2.2.2.1 _ k3
  have hp0 := h.1.2.1
  have hp8 := PM_len h
  rw [q_X13_first_226, PM_ix h, PM_nm h k3]
  unfold zNmV
  rcases m_variable (X := X) (d := d + 10) hn h with ⟨j, e, j24, g1, g2, g3⟩ | ⟨g1, g2⟩
  · rw [g3, bI_r, if_neg (i_m1 j (by omega)), g2]
    show SMI mi O T N _ (pb (zN a) _)
    refine mnI (d := d + 9) hT h (by rw [k3]; decide) (by rw [k3]; decide) (fun σ1 n1 h1 => ?_)
    obtain ⟨b1, b2, b3, b4, b5⟩ := h1.2.2.2.1.2.2.2.2 j e g1
    rw [ix_nat j24 (by decide), b3]
    obtain ⟨σ2, e2, h2, k72⟩ := m_waits (X := X) (d := d + 10) (n := 1) (op := 5) (x := Int32.ofNat e.2.2) (ty := e.2.1) h1 (Or.inl ⟨rfl, rfl⟩) hp0 hp8
    have e2 : sm_callM X true (d + 11) 226 [vP (23, 0), vI 1, vI (Int32.ofNat e.2.2), vI (Int32.ofNat (a_p a))] σ1 = rV σ2 := e2
    rw [e2, bV_r, ix_nat j24 (by decide), k72, b2]
    exact ⟨_, rfl, h2⟩
  · rw [g2, bI_r, if_pos rfl, g1, PM_at h]
    exact mThI (d := d + 10) h hp0 (by omega)
theorem m_first (hT : TK T N) (hD : SubD sub) (hV : SubV sub) (h0 : PM mi O T N a σ) (ho : a_o a ≤ 10) (hs : a_o a < 10 → HM X d mi O T N sub (a_o a + 1)) (hb : zL a ≤ a_p a) (hty : tyA a) : SMI mi O T N (sm_callM X true (d + 13) 236 [vP (23, 0)] σ) (zFirst T sub a) := by
  rw [f_X13_first, q_X13_first_0, PM_at h0]
  unfold zFirst
  have h : PM mi O T N (aW (aS a 0) (0, 0, 0, 0)) (sI (sI σ 23 0 20 0) 23 0 21 0) := PM_w0 (PM_s0 h0)
  have hs0 : a_s (aW (aS a 0) (0, 0, 0, 0)) = 0 := rfl
  have hty : tyA (aW (aS a 0) (0, 0, 0, 0)) := hty
  have hb : zL (aW (aS a 0) (0, 0, 0, 0)) ≤ a_p (aW (aS a 0) (0, 0, 0, 0)) := hb
  have ho : a_o (aW (aS a 0) (0, 0, 0, 0)) ≤ 10 := ho
  have hs : a_o (aW (aS a 0) (0, 0, 0, 0)) < 10 → HM X d mi O T N sub (a_o (aW (aS a 0) (0, 0, 0, 0)) + 1) := hs
  have hpa : a_p a = a_p (aW (aS a 0) (0, 0, 0, 0)) := rfl
  rw [hpa]
  clear h0
  generalize sI (sI σ 23 0 20 0) 23 0 21 0 = σ at h ⊢
  generalize aW (aS a 0) (0, 0, 0, 0) = a at *
  have hl := len_m h hb
  have hp0 := h.1.2.1
  have hp8 := PM_len h
  rw [PM_ix h, PM_kd h]
  unfold zFst
  by_cases k4 : T.1 (a_p a) = 4
  · rw [if_pos ((mkd_v _).2.2.1.mpr k4), if_pos k4]
    exact SMI_r (m_number (d := d + 9) hT h k4 hl hp0 (by omega) (Or.inl ⟨rfl, rfl⟩))
  rw [if_neg (fun z => k4 ((mkd_v _).2.2.1.mp z)), if_neg k4, m_is h (by decide), bI_r]
  by_cases k45 : T.1 (a_p a) = 45
  · rw [if_pos k45, if_neg (by decide), if_pos k45]
    refine mnI (d := d + 10) hT h (by rw [k45]; decide) (by rw [k45]; decide) (fun σ1 n1 h1 => ?_)
    rw [PM_ix h1, PM_kd h1]
    have l1 : zL (aP a (a_p a + 1)) < 900 := hl
    by_cases q : T.1 (a_p (aP a (a_p a + 1))) = 4
    · rw [if_pos ((mkd_v _).2.2.1.mpr q)]
      refine mfI (d := d + 10) (c := T.1 (a_p (aP a (a_p a + 1))) = 4) h1 ⟨fun z => absurd z (by decide), fun z => absurd q z⟩ (fun _ => ?_)
      exact SMI_r (m_number (d := d + 9) hT h1 q l1 hp0 (by omega) (Or.inr ⟨rfl, rfl⟩))
    · rw [if_neg (fun z => q ((mkd_v _).2.2.1.mp z))]
      exact mfI (d := d + 10) (c := T.1 (a_p (aP a (a_p a + 1))) = 4) h1 ⟨fun _ => q, fun _ => rfl⟩ (fun z => absurd z q)
  rw [if_neg k45, if_pos rfl, if_neg k45, m_w (j := 11) (c := 211) (w := 11) h (by omega) (by decide) rfl, bI_r]
  by_cases k211 : T.1 (a_p a) = 211
  · rw [if_pos k211, if_neg (by decide), if_pos k211]
    refine meI (d := d + 11) (op := 4) (tk := a_p a) (arg := 0) (ty := 37) (pl := T.2.2.2 (a_p a)) (tgt := 0) h hl rfl (Nat.zero_le _) rfl rfl rfl (Or.inr ⟨rfl, hp0, by omega, rfl⟩) (fun σ1 h1 => ?_)
    exact mnI (d := d + 10) hT h1 (by show T.1 (a_p a) ≠ 6; rw [k211]; decide) (by show T.1 (a_p a) ≠ 7; rw [k211]; decide) (fun σ2 _ h2 => ⟨_, rfl, h2⟩)
  rw [if_neg k211, if_pos rfl, if_neg k211, m_w (j := 10) (c := 210) (w := 10) h (by omega) (by decide) rfl, bI_r]
  by_cases k210 : T.1 (a_p a) = 210
  · rw [if_pos k210, if_neg (by decide), if_pos k210]
    exact SMI_r (m_makes (d := d + 1) hT hD h k210 ho (fun z => HM_le (hs z)) hs0 hb hty)
  rw [if_neg k210, if_pos rfl, if_neg k210, m_is h (by decide), bI_r]
  by_cases k40 : T.1 (a_p a) = 40
  · rw [if_pos k40, if_neg (by decide), if_pos k40]
    refine mbVI (m_opens (d := d + 9) hT h (by decide) ho) (fun _ a1 σ1 e1 h1 => ?_)
    obtain ⟨c1, n1, e1⟩ := zOpens_inr.mp e1
    have E1 : a1 = aP (aO a (a_o a + 1)) (a_p a + 1) := congrArg Prod.snd e1
    have b1 : zL a1 ≤ a_p a1 := by rw [E1]; show zL a ≤ a_p a + 1; omega
    have t1 : tyA a1 := by rw [E1]; exact hty
    have o1 : a_o a1 = a_o a + 1 := by rw [E1]; rfl
    have c10 := c1.2
    refine mbII (hs c10 12 a1 σ1 h1 o1 b1 t1) (fun u a2 σ2 e2 h2 => ?_)
    obtain ⟨-, b2, t2, l2, o2, -, -⟩ := sub_b hD (PM_len h1) b1 t1 e2
    rw [m_is h2 (by decide), bI_r]
    refine mfI (d := d + 10) h2 bz (fun c2 => ?_)
    refine mnI (d := d + 10) hT (PM_close h2 (by omega) (by omega)) (by show T.1 (a_p a2) ≠ 6; rw [c2]; decide) (by show T.1 (a_p a2) ≠ 7; rw [c2]; decide) (fun σ3 n3 h3 => ?_)
    exact ⟨_, rfl, PM_s0 h3⟩
  rw [if_neg k40, if_pos rfl, if_neg k40, PM_ix h, PM_kd h]
  have key : ∀ y : Int32, (y = 0 ↔ ¬ T.1 (a_p a) = 3) → SMI mi O T N (sm_go (sm_ZZ X) sm_PP true (sm_callM X true (d + 12)) 236 185 [vP (23, 0), vI (Int32.ofNat (a_p a)), vU] [vI y, vP (23, 0)] σ) (if T.1 (a_p a) = 3 then
    (if T.1 (a_p a + 1) = 40 then zCall T sub a else match kFind (T.2.1 (a_p a)) (a_k a) with
      | none => .inl (2, a_p a)
      | some e => pb (zN a) (fun _ a1 => .inr (e.1, aW (aS a1 1) (5, Int32.ofNat e.2, T.2.2.2 (a_p a), e.1))))
  else .inl (1, a_p a)) := by
    intro y hy
    rw [q_X13_first_185, if_pos rfl]
    refine mfI (d := d + 10) h hy (fun k3 => ?_)
    have nx := m_nx (A := sm_bI (sm_callM X true (d + 12) 240 [vP (23, 0)] σ) sm_tw fun y5 s6 => some (some (some (vI y5)), s6)) (B := sm_go (sm_ZZ X) sm_PP true (sm_callM X true (d + 12)) 236 226 [vP (23, 0), vI (Int32.ofNat (a_p a)), vU] [] σ) (c := 40) hT h (by rw [k3]; decide) (by rw [k3]; decide) (by decide)
    refine Eq.mpr (congrArg (fun r => SMI mi O T N r _) nx) ?_
    by_cases q : T.1 (a_p a + 1) = 40
    · rw [if_pos q, if_pos q]
      exact SMI_r (m_call hT hD hV h k3 ho hs hb hty)
    · rw [if_neg q, if_neg q]
      exact m_name226 (d := d + 1) hT h k3
  by_cases k3 : T.1 (a_p a) = 3
  · rw [if_pos ((mkd_v _).1.mpr k3)]
    exact key 1 ⟨fun z => absurd z (by decide), fun z => absurd k3 z⟩
  · rw [if_neg (fun z => k3 ((mkd_v _).1.mp z))]
    exact key 0 ⟨fun _ => k3, fun _ => rfl⟩
theorem m_UL {o : Nat} (hT : TK T N) (hD : SubD sub) (ho : o ≤ 10) (hs : o < 10 → HM X d mi O T N sub (o + 1)) : ∀ (f : Nat) (t : Int32) (a : zA) (σ : sm_S), PM mi O T N a σ → a_o a = o → nW a ≤ a_p a → tyA a → wOk a → tyOk t → 801 ≤ f + a_p a →
    SMI mi O T N (sm_go (sm_ZZ X) sm_PP true (sm_callM X true (d + 13)) 234 7 [vP (23, 0), vI t, vI 1] [] σ) (zUL T sub f t a)
  | 0, t, a, σ, h, hoa, hb, hty, hw, ht, hf => by have := PM_len h; omega
  | f + 1, t, a, σ, h, hoa, hb, hty, hw, ht, hf => by
    have hp := PM_len h
    have go : ∀ {t1 a1 σ1}, Dx (nW a) a a1 ∧ wOk a1 → tyOk t1 → PM mi O T N a1 σ1 → SMI mi O T N (sm_go (sm_ZZ X) sm_PP true (sm_callM X true (d + 13)) 234 7 [vP (23, 0), vI t1, vI 1] [] σ1) (zUL T sub f t1 a1) := by
      intro t1 a1 σ1 hd ht1 h1
      obtain ⟨⟨x1, x2, x3, x4⟩, w1⟩ := hd
      exact m_UL hT hD ho hs f t1 a1 σ1 h1 (x1.2.2.2.2.2.2.2.1.trans hoa) (by omega) (tyA_eq x1 hty) w1 ht1 (by omega)
    rw [q_X13_unit_7, if_neg (by decide), m_is h (by decide), bI_r, zUL]
    by_cases k1 : T.1 (a_p a) = 91
    · rw [if_pos k1, if_neg (by decide), if_pos k1]
      refine mbII (m_element (d := d + 2) hT hD h k1 hw (by omega) (fun z => by rw [hoa] at z ⊢; exact HM_le (hs z)) hb hty ht) (fun t1 a1 σ1 e1 h1 => ?_)
      exact go (D_idx hD hp e1) (V_idx e1) h1
    rw [if_neg k1, if_pos rfl, if_neg k1, m_is h (by decide), bI_r]
    by_cases k2 : T.1 (a_p a) = 46
    · rw [if_pos k2, if_neg (by decide), if_pos k2]
      refine mbII (m_field (d := d + 2) hT h k2 hw hb ht) (fun t1 a1 σ1 e1 h1 => ?_)
      exact go (D_mem hp e1) (V_mem e1) h1
    rw [if_neg k2, if_pos rfl, if_neg k2, m_w (j := 13) (c := 213) (w := 13) h (by omega) (by decide) rfl, bI_r]
    by_cases k3 : T.1 (a_p a) = 213
    · rw [if_pos k3, if_neg (by decide), if_pos (Or.inl k3)]
      refine mbII (m_asked (d := d + 2) hT h (Or.inl k3) hw hb ht) (fun t1 a1 σ1 e1 h1 => ?_)
      exact go (D_ask hp e1) (V_ask hT e1) h1
    rw [if_neg k3, if_pos rfl, m_w (j := 12) (c := 212) (w := 12) h (by omega) (by decide) rfl, bI_r]
    by_cases k4 : T.1 (a_p a) = 212
    · rw [if_pos k4, if_neg (by decide), if_pos (Or.inr k4)]
      refine mbII (m_asked (d := d + 2) hT h (Or.inr k4) hw hb ht) (fun t1 a1 σ1 e1 h1 => ?_)
      exact go (D_ask hp e1) (V_ask hT e1) h1
    · rw [if_neg k4, if_pos rfl, if_neg (fun z => z.elim k3 k4), q_X13_unit_7, if_pos rfl]
      exact ⟨σ, rfl, h⟩
theorem V_first (hT : TK T N) (hs : SubV sub) (hp : a_p a ≤ 800) (k : tyA a) {y : Int32} (h : zFirst T sub a = .inr (y, b)) : tyOk y :=
  V_fst (a := aW (aS a 0) (0, 0, 0, 0)) hT hs hp k h
theorem m_unit {o : Nat} (hT : TK T N) (hD : SubD sub) (hV : SubV sub) (ho : o ≤ 10) (hs : o < 10 → HM X d mi O T N sub (o + 1)) (h : PM mi O T N a σ) (hoa : a_o a = o) (hb : zL a ≤ a_p a) (hty : tyA a) : SMI mi O T N (sm_callM X true (d + 14) 234 [vP (23, 0)] σ) (zUnit T sub a) := by
  rw [f_X13_unit, q_X13_unit_0]
  unfold zUnit
  refine mbII (m_first (d := d) hT hD hV h (by omega) (fun z => by rw [hoa] at z ⊢; exact hs z) hb hty) (fun t1 a1 σ1 e1 h1 => ?_)
  obtain ⟨⟨x1, x2, x3, x4⟩, w1⟩ := D_first hD (PM_len h) e1
  exact m_UL hT hD ho hs 801 t1 a1 σ1 h1 (x1.2.2.2.2.2.2.2.1.trans hoa) (by omega) (tyA_eq x1 hty) w1 (V_first hT hV (PM_len h) hty e1) (by omega)
/-- a value -/
theorem m_UV {o : Nat} (hT : TK T N) (hD : SubD sub) (hV : SubV sub) (ho : o ≤ 10) (hs : o < 10 → HM X d mi O T N sub (o + 1)) (h : PM mi O T N a σ) (hoa : a_o a = o) (hb : zL a ≤ a_p a) (hty : tyA a) : SMI mi O T N (sm_callM X true (d + 15) 233 [vP (23, 0)] σ) (zUV T sub a) := by
  rw [f_X13_unitValue, q_X13_unitValue_0]
  unfold zUV
  refine mbII (m_unit (d := d) hT hD hV ho hs h hoa hb hty) (fun t1 a1 σ1 e1 h1 => ?_)
  obtain ⟨⟨x1, x2, x3, x4⟩, w1⟩ := D_unit hD (PM_len h) e1
  have hz : zL a1 ≤ nW a1 := Nat.le_add_right _ _
  obtain ⟨σ2, e2, h2⟩ := m_reads (X := X) (d := d + 12) h1 (by omega) (w_of w1)
  rw [e2, bV_r]
  exact ⟨_, rfl, h2⟩
theorem m_PL {o : Nat} (hT : TK T N) (hD : SubD sub) (hV : SubV sub) (ho : o ≤ 10) (hs : o < 10 → HM X d mi O T N sub (o + 1)) : ∀ (f : Nat) (t : Int32) (a : zA) (σ : sm_S) (v2 : sm_V), PM mi O T N a σ → a_o a = o → zL a ≤ a_p a → tyA a → 801 ≤ f + a_p a →
    SMI mi O T N (sm_go (sm_ZZ X) sm_PP true (sm_callM X true (d + 15)) 232 5 [vP (23, 0), vI t, v2] [] σ) (zPL T sub f t a)
  | 0, t, a, σ, v2, h, hoa, hb, hty, hf => by have := PM_len h; omega
  | f + 1, t, a, σ, v2, h, hoa, hb, hty, hf => by
    have hp := PM_len h
    have hpN := h.1.2.1
    rw [q_X13_product_5, m_is h (by decide), bI_r, zPL]
    by_cases k1 : T.1 (a_p a) = 42
    · rw [if_pos k1, if_neg (by decide), if_pos k1, PM_at h]
      have key : ∀ y : Int32, (y = 0 ↔ ¬ t = 36) → SMI mi O T N (sm_go (sm_ZZ X) sm_PP true (sm_callM X true (d + 15)) 232 31 [vP (23, 0), vI t, vI (Int32.ofNat (a_p a))] [vI y, vP (23, 0)] σ) (if t = 36 then pb (zN a) (fun _ a1 => pb (zUV T sub a1) (fun u a2 => if u = 36 then zPL T sub f 36 (zE a2 9 0 0 36 (T.2.2.2 (a_p a))) else .inl (4, a_p a))) else .inl (4, a_p a)) := by
        intro y hy
        rw [q_X13_product_31, if_pos rfl]
        refine mtI (d := d + 13) h hy hpN (by omega) (fun c1 => ?_)
        refine mnI (d := d + 13) hT h (by rw [k1]; decide) (by rw [k1]; decide) (fun σ1 n1 h1 => ?_)
        have b1 : zL (aP a (a_p a + 1)) ≤ a_p (aP a (a_p a + 1)) := by show zL a ≤ a_p a + 1; omega
        refine mbII (m_UV (d := d) hT hD hV ho hs h1 hoa b1 hty) (fun u a2 σ2 e2 h2 => ?_)
        obtain ⟨⟨x1, x2, x3, x4⟩, w2⟩ := D_UV hD (PM_len h1) e2
        rw [wN_0 w2] at x4
        have z1 : zL (aP a (a_p a + 1)) = zL a := rfl
        have p1 : a_p (aP a (a_p a + 1)) = a_p a + 1 := rfl
        have O2 : a_o a2 = o := x1.2.2.2.2.2.2.2.1.trans hoa
        have TY : tyA a2 := tyA_eq x1 hty
        have key2 : ∀ y : Int32, (y = 0 ↔ ¬ u = 36) → SMI mi O T N (sm_go (sm_ZZ X) sm_PP true (sm_callM X true (d + 15)) 232 56 [vP (23, 0), vI u, vI (Int32.ofNat (a_p a))] [vI y, vP (23, 0)] σ2) (if u = 36 then zPL T sub f 36 (zE a2 9 0 0 36 (T.2.2.2 (a_p a))) else .inl (4, a_p a)) := by
          intro y hy
          rw [q_X13_product_56, if_pos rfl]
          refine mtI (d := d + 13) h2 hy hpN (by omega) (fun c2 => ?_)
          refine meI (d := d + 14) (op := 9) (tk := a_p a) (arg := 0) (ty := 36) (pl := T.2.2.2 (a_p a)) (tgt := 0) h2 (by omega) rfl (Nat.zero_le _) rfl rfl rfl (Or.inr ⟨rfl, hpN, by omega, rfl⟩) (fun σ3 h3 => ?_)
          rw [c2]
          exact m_PL hT hD hV ho hs f 36 _ σ3 _ h3 O2 (by rw [zL_E]; show zL a2 + 1 ≤ a_p a2; omega) TY (by show 801 ≤ f + a_p a2; omega)
        by_cases q : u = 36
        · rw [if_pos q]; exact key2 1 ⟨fun z => absurd z (by decide), fun z => absurd q z⟩
        · rw [if_neg q]; exact key2 0 ⟨fun _ => q, fun _ => rfl⟩
      by_cases q : t = 36
      · rw [if_pos q]; exact key 1 ⟨fun z => absurd z (by decide), fun z => absurd q z⟩
      · rw [if_neg q]; exact key 0 ⟨fun _ => q, fun _ => rfl⟩
    · rw [if_neg k1, if_pos rfl, if_neg k1]
      exact ⟨σ, rfl, h⟩
theorem m_product {o : Nat} (hT : TK T N) (hD : SubD sub) (hV : SubV sub) (ho : o ≤ 10) (hs : o < 10 → HM X d mi O T N sub (o + 1)) (h : PM mi O T N a σ) (hoa : a_o a = o) (hb : zL a ≤ a_p a) (hty : tyA a) : SMI mi O T N (sm_callM X true (d + 16) 232 [vP (23, 0)] σ) (zProd T sub a) := by
  rw [f_X13_product, q_X13_product_0]
  unfold zProd
  refine mbII (m_UV (d := d) hT hD hV ho hs h hoa hb hty) (fun t1 a1 σ1 e1 h1 => ?_)
  obtain ⟨⟨x1, x2, x3, x4⟩, w1⟩ := D_UV hD (PM_len h) e1
  rw [wN_0 w1] at x4
  exact m_PL hT hD hV ho hs 801 t1 a1 σ1 _ h1 (x1.2.2.2.2.2.2.2.1.trans hoa) (by omega) (tyA_eq x1 hty) (by omega)
theorem m_SL {o : Nat} (hT : TK T N) (hD : SubD sub) (hV : SubV sub) (ho : o ≤ 10) (hs : o < 10 → HM X d mi O T N sub (o + 1)) : ∀ (f : Nat) (t : Int32) (a : zA) (σ : sm_S) (v2 v3 : sm_V), PM mi O T N a σ → a_o a = o → zL a ≤ a_p a → tyA a → 801 ≤ f + a_p a →
    SMI mi O T N (sm_go (sm_ZZ X) sm_PP true (sm_callM X true (d + 16)) 231 5 [vP (23, 0), vI t, v2, v3] [] σ) (zSL T sub f t a)
  | 0, t, a, σ, v2, v3, h, hoa, hb, hty, hf => by have := PM_len h; omega
  | f + 1, t, a, σ, v2, v3, h, hoa, hb, hty, hf => by
    have hp := PM_len h
    have hpN := h.1.2.1
    have main : ∀ (op : Nat) (o2 : Int32), (T.1 (a_p a) = 43 ∨ T.1 (a_p a) = 45) → ((op = 7 ∧ o2 = 10) ∨ (op = 8 ∧ o2 = 11)) → ∀ v3 : sm_V, SMI mi O T N (sm_go (sm_ZZ X) sm_PP true (sm_callM X true (d + 16)) 231 44 [vP (23, 0), vI t, vI (Int32.ofNat (a_p a)), v3] [vI o2] σ) (if t = 36 then pb (zN a) (fun _ a1 => pb (zProd T sub a1) (fun u a2 => if u = 36 then zSL T sub f 36 (zE a2 op 0 0 36 (T.2.2.2 (a_p a))) else .inl (4, a_p a))) else .inl (4, a_p a)) := by
      intro op o2 k1 hop v3
      have k6 : T.1 (a_p a) ≠ 6 ∧ T.1 (a_p a) ≠ 7 := by rcases k1 with z | z <;> rw [z] <;> decide
      have key : ∀ y : Int32, (y = 0 ↔ ¬ t = 36) → SMI mi O T N (sm_go (sm_ZZ X) sm_PP true (sm_callM X true (d + 16)) 231 57 [vP (23, 0), vI t, vI (Int32.ofNat (a_p a)), vI o2] [vI y, vP (23, 0)] σ) (if t = 36 then pb (zN a) (fun _ a1 => pb (zProd T sub a1) (fun u a2 => if u = 36 then zSL T sub f 36 (zE a2 op 0 0 36 (T.2.2.2 (a_p a))) else .inl (4, a_p a))) else .inl (4, a_p a)) := by
        intro y hy
        rw [q_X13_sum_57, if_pos rfl]
        refine mtI (d := d + 14) h hy hpN (by omega) (fun c1 => ?_)
        refine mnI (d := d + 14) hT h k6.1 k6.2 (fun σ1 n1 h1 => ?_)
        have b1 : zL (aP a (a_p a + 1)) ≤ a_p (aP a (a_p a + 1)) := by show zL a ≤ a_p a + 1; omega
        refine mbII (m_product (d := d) hT hD hV ho hs h1 hoa b1 hty) (fun u a2 σ2 e2 h2 => ?_)
        obtain ⟨⟨x1, x2, x3, x4⟩, w2⟩ := D_prod hD (PM_len h1) e2
        rw [wN_0 w2] at x4
        have z1 : zL (aP a (a_p a + 1)) = zL a := rfl
        have p1 : a_p (aP a (a_p a + 1)) = a_p a + 1 := rfl
        have O2 : a_o a2 = o := x1.2.2.2.2.2.2.2.1.trans hoa
        have TY : tyA a2 := tyA_eq x1 hty
        have key2 : ∀ y : Int32, (y = 0 ↔ ¬ u = 36) → SMI mi O T N (sm_go (sm_ZZ X) sm_PP true (sm_callM X true (d + 16)) 231 82 [vP (23, 0), vI u, vI (Int32.ofNat (a_p a)), vI o2] [vI y, vP (23, 0)] σ2) (if u = 36 then zSL T sub f 36 (zE a2 op 0 0 36 (T.2.2.2 (a_p a))) else .inl (4, a_p a)) := by
          intro y hy
          rw [q_X13_sum_82, if_pos rfl]
          refine mtI (d := d + 14) h2 hy hpN (by omega) (fun c2 => ?_)
          refine meI (d := d + 15) (op := op) (tk := a_p a) (arg := 0) (ty := 36) (pl := T.2.2.2 (a_p a)) (tgt := 0) h2 (by omega) (by rcases hop with ⟨z, -⟩ | ⟨z, -⟩ <;> rw [z] <;> rfl) (Nat.zero_le _) (by rcases hop with ⟨rfl, rfl⟩ | ⟨rfl, rfl⟩ <;> rfl) (by rcases hop with ⟨rfl, rfl⟩ | ⟨rfl, rfl⟩ <;> rfl) (by rcases hop with ⟨rfl, rfl⟩ | ⟨rfl, rfl⟩ <;> rfl) (Or.inr ⟨rfl, hpN, by omega, rfl⟩) (fun σ3 h3 => ?_)
          rw [c2]
          exact m_SL hT hD hV ho hs f 36 _ σ3 _ _ h3 O2 (by rw [zL_E]; show zL a2 + 1 ≤ a_p a2; omega) TY (by show 801 ≤ f + a_p a2; omega)
        by_cases q : u = 36
        · rw [if_pos q]; exact key2 1 ⟨fun z => absurd z (by decide), fun z => absurd q z⟩
        · rw [if_neg q]; exact key2 0 ⟨fun _ => q, fun _ => rfl⟩
      rw [q_X13_sum_44]
      by_cases q : t = 36
      · rw [if_pos q]; exact key 1 ⟨fun z => absurd z (by decide), fun z => absurd q z⟩
      · rw [if_neg q]; exact key 0 ⟨fun _ => q, fun _ => rfl⟩
    rw [q_X13_sum_5, m_is h (by decide), bI_r, zSL]
    by_cases k1 : T.1 (a_p a) = 43
    · rw [if_pos k1, if_neg (by decide), if_pos (Or.inl k1), q_X13_sum_23, m_is h (by decide), bI_r, if_pos k1, if_neg (by decide), if_pos k1, PM_at h]
      exact main 7 10 (Or.inl k1) (Or.inl ⟨rfl, rfl⟩) _
    · rw [if_neg k1, if_pos rfl, m_is h (by decide), bI_r]
      by_cases k2 : T.1 (a_p a) = 45
      · rw [if_pos k2, if_neg (by decide), if_pos (Or.inr k2), q_X13_sum_23, m_is h (by decide), bI_r, if_neg k1, if_pos rfl, if_neg k1, PM_at h]
        exact main 8 11 (Or.inr k2) (Or.inr ⟨rfl, rfl⟩) _
      · rw [if_neg k2, if_pos rfl, if_neg (fun z => z.elim k1 k2)]
        exact ⟨σ, rfl, h⟩
theorem m_sum {o : Nat} (hT : TK T N) (hD : SubD sub) (hV : SubV sub) (ho : o ≤ 10) (hs : o < 10 → HM X d mi O T N sub (o + 1)) (h : PM mi O T N a σ) (hoa : a_o a = o) (hb : zL a ≤ a_p a) (hty : tyA a) : SMI mi O T N (sm_callM X true (d + 17) 231 [vP (23, 0)] σ) (zSum T sub a) := by
  rw [f_X13_sum, q_X13_sum_0]
  unfold zSum
  refine mbII (m_product (d := d) hT hD hV ho hs h hoa hb hty) (fun t1 a1 σ1 e1 h1 => ?_)
  obtain ⟨⟨x1, x2, x3, x4⟩, w1⟩ := D_prod hD (PM_len h) e1
  rw [wN_0 w1] at x4
  exact m_SL hT hD hV ho hs 801 t1 a1 σ1 _ _ h1 (x1.2.2.2.2.2.2.2.1.trans hoa) (by omega) (tyA_eq x1 hty) (by omega)
theorem m_Ex {o : Nat} (hT : TK T N) (hD : SubD sub) (hV : SubV sub) (ho : o ≤ 10) (hs : o < 10 → HM X d mi O T N sub (o + 1)) (h : PM mi O T N a σ) (hoa : a_o a = o) (hb : zL a ≤ a_p a) (hty : tyA a) : SMI mi O T N (sm_callM X true (d + 18) 230 [vP (23, 0)] σ) (zEx T sub a) := by
  rw [f_X13_e, q_X13_e_0]
  unfold zEx
  refine mbII (m_sum (d := d) hT hD hV ho hs h hoa hb hty) (fun t a1 σ1 e1 h1 => ?_)
  have V1 := V_sum hT hV (PM_len h) hty e1
  obtain ⟨⟨x1, x2, x3, x4⟩, w1⟩ := D_sum hD (PM_len h) e1
  rw [wN_0 w1] at x4
  have O1 : a_o a1 = o := x1.2.2.2.2.2.2.2.1.trans hoa
  have TY1 : tyA a1 := tyA_eq x1 hty
  have hpN := h1.1.2.1
  have hp := PM_len h1
  have i300 : sm_callM X true (d + 17) 204 [vP (23, 0), vI 300] σ1 = rI (if T.1 (a_p a1) = 1 then 1 else 0) σ1 := m_is2 h1 (Or.inl ⟨rfl, rfl⟩)
  have i301 : sm_callM X true (d + 17) 204 [vP (23, 0), vI 301] σ1 = rI (if T.1 (a_p a1) = 2 then 1 else 0) σ1 := m_is2 h1 (Or.inr ⟨rfl, rfl⟩)
  have main : ∀ (op : Nat) (o2 : Int32), ((T.1 (a_p a1) = 1 ∧ op = 10 ∧ o2 = 13) ∨ (T.1 (a_p a1) = 2 ∧ op = 11 ∧ o2 = 14) ∨ (T.1 (a_p a1) = 60 ∧ op = 12 ∧ o2 = 15)) → ∀ v3 v4 : sm_V, SMI mi O T N (sm_go (sm_ZZ X) sm_PP true (sm_callM X true (d + 17)) 230 73 [vP (23, 0), vI t, vI (Int32.ofNat (a_p a1)), v3, v4] [vI o2] σ1) (if t = 36 ∨ (T.1 (a_p a1) ≠ 60 ∧ cRef t = 1) then pb (zN a1) (fun _ a2 => pb (zSum T sub a2) (fun u a3 => if (if t = 36 then u = 36 else cRef u = 1) then .inr (36, zE a3 (if T.1 (a_p a1) = 60 then 12 else if T.1 (a_p a1) = 1 then 10 else 11) 0 0 36 (T.2.2.2 (a_p a1))) else .inl (4, a_p a1))) else .inl (4, a_p a1)) := by
    intro op o2 hop v3 v4
    have k6 : T.1 (a_p a1) ≠ 6 ∧ T.1 (a_p a1) ≠ 7 := by rcases hop with ⟨z, -⟩ | ⟨z, -⟩ | ⟨z, -⟩ <;> rw [z] <;> decide
    have hop2 : (if T.1 (a_p a1) = 60 then 12 else if T.1 (a_p a1) = 1 then 10 else 11) = op := by rcases hop with ⟨z, w, -⟩ | ⟨z, w, -⟩ | ⟨z, w, -⟩ <;> rw [z, w] <;> decide
    rw [hop2]
    have key : ∀ y : Int32, (y = 0 ↔ ¬ (t = 36 ∨ (T.1 (a_p a1) ≠ 60 ∧ cRef t = 1))) → SMI mi O T N (sm_go (sm_ZZ X) sm_PP true (sm_callM X true (d + 17)) 230 99 [vP (23, 0), vI t, vI (Int32.ofNat (a_p a1)), vI o2, vU] [vI y, vP (23, 0)] σ1) (if t = 36 ∨ (T.1 (a_p a1) ≠ 60 ∧ cRef t = 1) then pb (zN a1) (fun _ a2 => pb (zSum T sub a2) (fun u a3 => if (if t = 36 then u = 36 else cRef u = 1) then .inr (36, zE a3 op 0 0 36 (T.2.2.2 (a_p a1))) else .inl (4, a_p a1))) else .inl (4, a_p a1)) := by
      intro y hy
      rw [q_X13_e_99, if_pos rfl]
      refine mtI (d := d + 15) h1 hy hpN (by omega) (fun c1 => ?_)
      refine mnI (d := d + 15) hT h1 k6.1 k6.2 (fun σ2 n2 h2 => ?_)
      have b2 : zL (aP a1 (a_p a1 + 1)) ≤ a_p (aP a1 (a_p a1 + 1)) := by show zL a1 ≤ a_p a1 + 1; omega
      refine mbII (m_sum (d := d) hT hD hV ho hs h2 O1 b2 TY1) (fun u a3 σ3 e3 h3 => ?_)
      obtain ⟨⟨g1, g2, g3, g4⟩, w3⟩ := D_sum hD (PM_len h2) e3
      rw [wN_0 w3] at g4
      have z1 : zL (aP a1 (a_p a1 + 1)) = zL a1 := rfl
      have p1 : a_p (aP a1 (a_p a1 + 1)) = a_p a1 + 1 := rfl
      have fin : ∀ y : Int32, (y = 0 ↔ ¬ (if t = 36 then u = 36 else cRef u = 1)) → ∀ v1 v4 : sm_V, SMI mi O T N (sm_go (sm_ZZ X) sm_PP true (sm_callM X true (d + 17)) 230 140 [vP (23, 0), v1, vI (Int32.ofNat (a_p a1)), vI o2, v4] [vI y, vP (23, 0)] σ3) (if (if t = 36 then u = 36 else cRef u = 1) then .inr (36, zE a3 op 0 0 36 (T.2.2.2 (a_p a1))) else .inl (4, a_p a1)) := by
        intro y hy v1 v4
        rw [q_X13_e_140, if_pos rfl]
        refine mtI (d := d + 15) h3 hy hpN (by omega) (fun c3 => ?_)
        refine meI (d := d + 16) (op := op) (tk := a_p a1) (arg := 0) (ty := 36) (pl := T.2.2.2 (a_p a1)) (tgt := 0) h3 (by omega) (by rcases hop with ⟨-, rfl, rfl⟩ | ⟨-, rfl, rfl⟩ | ⟨-, rfl, rfl⟩ <;> rfl) (Nat.zero_le _) (by rcases hop with ⟨-, rfl, rfl⟩ | ⟨-, rfl, rfl⟩ | ⟨-, rfl, rfl⟩ <;> rfl) (by rcases hop with ⟨-, rfl, rfl⟩ | ⟨-, rfl, rfl⟩ | ⟨-, rfl, rfl⟩ <;> rfl) (by rcases hop with ⟨-, rfl, rfl⟩ | ⟨-, rfl, rfl⟩ | ⟨-, rfl, rfl⟩ <;> rfl) (Or.inr ⟨rfl, hpN, by omega, rfl⟩) (fun σ4 h4 => ?_)
        exact ⟨_, rfl, h4⟩
      by_cases q36 : t = 36
      · rw [if_pos q36]
        by_cases qu : u = 36
        · rw [if_pos qu]; exact fin 1 ⟨fun z => absurd z (by decide), fun z => absurd (by rw [if_pos q36]; exact qu) z⟩ _ _
        · rw [if_neg qu]; exact fin 0 ⟨fun _ z => by rw [if_pos q36] at z; exact qu z, fun _ => rfl⟩ _ _
      · rw [if_neg q36, m_isReference, bI_r]
        exact fin (cRef u) (by rw [if_neg q36]; rcases cRef_01 u with z | z <;> rw [z] <;> decide) _ _
    rw [q_X13_e_73]
    by_cases q36 : t = 36
    · rw [if_pos q36]; exact key 1 ⟨fun z => absurd z (by decide), fun z => absurd (Or.inl q36) z⟩
    · rw [if_neg q36]
      by_cases q15 : o2 = 15
      · rw [if_pos q15]
        have k60 : T.1 (a_p a1) = 60 := by rcases hop with ⟨-, -, w⟩ | ⟨-, -, w⟩ | ⟨w, -, -⟩
                                           · rw [w] at q15; exact absurd q15 (by decide)
                                           · rw [w] at q15; exact absurd q15 (by decide)
                                           · exact w
        exact key 0 ⟨fun _ z => z.elim q36 (fun z => z.1 k60), fun _ => rfl⟩
      · rw [if_neg q15, m_isReference, bI_r]
        have k60 : T.1 (a_p a1) ≠ 60 := by rcases hop with ⟨w, -, -⟩ | ⟨w, -, -⟩ | ⟨-, -, w⟩
                                           · rw [w]; decide
                                           · rw [w]; decide
                                           · exact absurd w q15
        rcases cRef_01 t with z | z
        · rw [if_pos z]; exact key 0 ⟨fun _ w => w.elim q36 (fun w => absurd (z.symm.trans w.2) (by decide)), fun _ => rfl⟩
        · rw [if_neg (by rw [z]; decide)]; exact key 1 ⟨fun w => absurd w (by decide), fun w => absurd (Or.inr ⟨k60, z⟩) w⟩
  rw [i300, bI_r]
  by_cases k1 : T.1 (a_p a1) = 1
  · rw [if_pos k1, if_neg (by decide), if_pos (Or.inl k1), q_X13_e_36, i300, bI_r, if_pos k1, if_neg (by decide), PM_at h1]
    exact main 10 13 (Or.inl ⟨k1, rfl, rfl⟩) _ _
  · rw [if_neg k1, if_pos rfl, i301, bI_r]
    by_cases k2 : T.1 (a_p a1) = 2
    · rw [if_pos k2, if_neg (by decide), if_pos (Or.inr (Or.inl k2)), q_X13_e_36, i300, bI_r, if_neg k1, if_pos rfl, i301, bI_r, if_pos k2, if_neg (by decide), PM_at h1]
      exact main 11 14 (Or.inr (Or.inl ⟨k2, rfl, rfl⟩)) _ _
    · rw [if_neg k2, if_pos rfl, m_is h1 (by decide), bI_r]
      by_cases k3 : T.1 (a_p a1) = 60
      · rw [if_pos k3, if_neg (by decide), if_pos (Or.inr (Or.inr k3)), q_X13_e_36, i300, bI_r, if_neg k1, if_pos rfl, i301, bI_r, if_neg k2, if_pos rfl, PM_at h1]
        exact main 12 15 (Or.inr (Or.inr ⟨k3, rfl, rfl⟩)) _ _
      · rw [if_neg k3, if_pos rfl, if_neg (fun z => z.elim k1 (fun z => z.elim k2 k3))]
        exact ⟨σ1, rfl, h1⟩
/-- EXPRESSIONS, n levels -/
theorem m_X (hT : TK T N) : ∀ (n o : Nat), o + n = 11 → 1 ≤ n → HM X (d + 18 * n) mi O T N (zX_ T n) o
  | 0, o, h, h1 => by omega
  | n + 1, o, h, h1 => by
    intro e a σ hp ho hb hty
    have hsub : o < 10 → HM X (d + 18 * n + e) mi O T N (zX_ T n) (o + 1) := fun hlt => HM_le (m_X hT n (o + 1) (by omega) (by omega))
    have := m_Ex (X := X) (d := d + 18 * n + e) hT (D_X n) (V_X hT n) (by omega) hsub hp ho hb hty
    have e1 : d + 18 * n + e + 18 = d + 18 * (n + 1) + e := by omega
    rw [e1] at this
    exact this
end
