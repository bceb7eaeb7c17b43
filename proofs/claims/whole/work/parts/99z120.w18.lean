section
/-! THE REFERENCE's FIRST HEAD: names may be left over from the text before -/
variable {X : Nat × (Nat → Int32)} {d : Nat} {s σ : sm_S} {mi N : Nat} {O : Nat → Nat → Nat → Int32} {T : zT} {a b : zA} {t : Int32}
def MN0 (_kn : List (List Int32 × Int32 × Nat)) (_m : Nat) (_σ : sm_S) : Prop := True
theorem MN0_o {kn : List (List Int32 × Int32 × Nat)} {m t i k : Nat} {x : Int32} (_q : MN0 kn m σ) (_h : ¬ (t = 23 ∧ (k = 15 ∨ k = 16)) ∧ t ≠ 72 ∧ t ≠ 73) : MN0 kn m (sI σ t i k x) := trivial
theorem MN0_L {kn : List (List Int32 × Int32 × Nat)} {m t i k : Nat} {x : Int64} (_q : MN0 kn m σ) (_h : t ≠ 71) : MN0 kn m (sL σ t i k x) := trivial
def PM0 (mi : Nat) (O : Nat → Nat → Nat → Int32) (T : zT) (N : Nat) (a : zA) (σ : sm_S) : Prop := MT T N (a_p a) σ ∧ MV (a_i a) mi σ ∧ MQp (a_i a) (a_q a) (a_b a) mi σ ∧ MN0 (a_k a) (a_m a) σ ∧ MX T N a σ ∧ σ.2.2.1 23 0 7 = (22, mi) ∧ OM mi O σ
def SMV0 (mi : Nat) (O : Nat → Nat → Nat → Int32) (T : zT) (N : Nat) (r : sm_R) (z : zR) : Prop := match z with
  | .inl e => Thr e.1 (T.2.2.2 e.2) mi O r
  | .inr x => ∃ σ', r = rV σ' ∧ PM0 mi O T N x.2 σ'
theorem mb0V {r : sm_R} {z : zR} {k : sm_S → sm_R} {k' : Int32 → zA → zR} (h : SMV0 mi O T N r z) (hok : ∀ y a σ, z = .inr (y, a) → PM0 mi O T N a σ → SMV mi O T N (k σ) (k' y a)) : SMV mi O T N (sm_bV r sm_tw k) (pb z k') := by
  rcases z with e | ⟨y, a⟩
  · obtain ⟨σ', rfl, F⟩ := h; exact ⟨σ', rfl, F⟩
  · obtain ⟨σ', rfl, P⟩ := h; exact hok y a σ' rfl P
theorem PM_len0 (h : PM0 mi O T N a σ) : a_p a ≤ 800 := h.1.1
theorem PM_at0 (h : PM0 mi O T N a σ) : σ.1 23 0 11 = Int32.ofNat (a_p a) := h.1.2.2.2.1
theorem PM_cd0 (h : PM0 mi O T N a σ) : σ.2.2.1 23 0 7 = (22, mi) := h.2.2.2.2.2.1
theorem PM_kd0 (h : PM0 mi O T N a σ) : σ.1 68 0 (a_p a) = mkd (T.1 (a_p a)) := (h.1.2.2.1 _ h.1.2.1).1
theorem PM_vl0 (h : PM0 mi O T N a σ) (h7 : T.1 (a_p a) ≠ 7) : σ.2.1 70 0 (a_p a) = mvl T (a_p a) := (h.1.2.2.1 _ h.1.2.1).2.2 h7
theorem PM_ix0 {f : Nat → sm_R} (h : PM0 mi O T N a σ) : sm_ix (σ.1 23 0 11) 803 f = f (a_p a) := by
  rw [PM_at0 h, ix_nat (by have := PM_len0 h; omega) (by decide)]
theorem m_isWord0 {j : Nat} (h : PM0 mi O T N a σ) (hj : j < 15) : sm_callM X true (d + 1) 205 [vP (23, 0), vI (Int32.ofNat j)] σ = rI (if T.1 (a_p a) = 200 + Int32.ofNat j then 1 else 0) σ := by
  obtain ⟨w1, w2, w3, w4, w5⟩ := mkd_w j hj
  rw [f_X13_isWord, q_X13_isWord_0, PM_ix0 h, PM_kd0 h]
  by_cases q : mkd (T.1 (a_p a)) = 5
  · obtain ⟨n200, n3, n7⟩ := (mkd_v _).2.2.2.2 q
    rw [if_pos q, PM_ix0 h, PM_vl0 h n7]
    have hv : (lg_cmp (mvl T (a_p a)) (Int32.ofNat j).toInt64 = 0) ↔ T.1 (a_p a) = 200 + Int32.ofNat j := by
      rw [lgc]
      unfold mvl
      rw [if_neg n3, if_pos n200]
      constructor
      · intro z
        have := i64_inj z
        rw [← this, Int32.add_comm, Int32.sub_add_cancel]
      · intro z; rw [z, w4]
    by_cases k : T.1 (a_p a) = 200 + Int32.ofNat j
    · rw [if_pos (hv.mpr k), if_pos k]
    · rw [if_neg (fun z => k (hv.mp z)), if_neg k]
  · rw [if_neg q, if_neg (fun z => q (by rw [z]; exact w1))]
theorem m_throw0 {f : Int32} {tk : Nat} (h : PM0 mi O T N a σ) (ht : tk ≤ N) (ht8 : tk ≤ 801) : Thr f (T.2.2.2 tk) mi O (sm_bP (sm_callM X true (d + 1) 200 [vP (23, 0), vI f, vI (Int32.ofNat tk)] σ) sm_tw fun y1 s2 => sm_rq y1 24 fun _ => sm_tw s2) := by
  rw [f_X13_fails, q_X13_fails_0, ix_nat (by omega) (by decide)]
  refine ⟨_, rfl, ?_, ?_, OM_I (OM_I h.2.2.2.2.2.2 (by omega)) (by omega), (show σ.2.2.1 23 0 7 = (22, mi) from PM_cd0 h)⟩
  · rw [gI, if_neg (by omega), gI, if_pos ⟨rfl, rfl, rfl⟩]
  · rw [gI, if_pos ⟨rfl, rfl, rfl⟩, gI, if_neg (by omega)]; exact (h.1.2.2.1 tk ht).2.1
theorem m_next0 (hT : TK T N) (h : PM0 mi O T N a σ) (h6 : T.1 (a_p a) ≠ 6) (h7 : T.1 (a_p a) ≠ 7) : SMV0 mi O T N (sm_callM X true (d + 2) 203 [vP (23, 0)] σ) (zN a) := by
  rw [f_X13_next, q_X13_next_0, PM_at0 h]
  unfold zN
  have hp := PM_len0 h
  by_cases q : a_p a = 800
  · rw [if_pos (by rw [q]; rfl), if_pos q]
    have := m_throw0 (X := X) (d := d) (f := 5) (tk := a_p a) h h.1.2.1 (by omega)
    rw [q] at this ⊢
    exact this
  · have hN : a_p a < N := by
      rcases Nat.lt_or_ge (a_p a) N with z | z
      · exact z
      · exfalso
        have e : a_p a = N := by have := h.1.2.1; omega
        rw [e] at h6 h7 q
        rcases hT.2.2.1 with w | w | w
        · exact h6 w
        · exact h7 w
        · omega
    rw [if_neg (by rw [show (800 : Int32) = Int32.ofNat 800 from rfl, i_eq (by omega) (by omega)]; exact q), if_neg q, i_s]
    obtain ⟨⟨a1, a2, a3, a4⟩, b1, b2, b3, b4, b5, b6⟩ := h
    refine ⟨_, rfl, ⟨by show a_p a + 1 ≤ 800; omega, hN, fun j hj => ?_, ⟨by rw [gI, if_pos ⟨rfl, rfl, rfl⟩]; rfl, by rw [gI, if_neg (by omega)]; exact a4.2.1, by rw [gI, if_neg (by omega)]; exact a4.2.2⟩⟩, MV_o b1 (by omega), MQp_o b2 (by omega), MN0_o b3 (by omega), ?_, (show σ.2.2.1 23 0 7 = (22, mi) from b5), OM_I b6 (by omega)⟩
    · obtain ⟨c1, c2, c3⟩ := a3 j hj
      exact ⟨by rw [gI, if_neg (by omega)]; exact c1, by rw [gI, if_neg (by omega)]; exact c2, c3⟩
    · exact MX_o (a := a) b4 (by omega)
theorem mfV0 {x : Int32} {c : Prop} [Decidable c] {k : sm_S → sm_R} {z : zR} (h : PM0 mi O T N a σ) (hx : x = 0 ↔ ¬ c) (hk : c → SMV mi O T N (k σ) z) : SMV mi O T N (sm_bV (sm_callM X true (d + 2) 201 [vP (23, 0), vI x] σ) sm_tw k) (if c then z else .inl (1, a_p a)) := by
  rw [f_X13_form, q_X13_form_0, PM_at0 h]
  by_cases q : c
  · rw [if_neg (fun z => (hx.mp z) q), if_pos q]
    exact hk q
  · rw [if_pos (hx.mpr q), if_neg q]
    obtain ⟨σ', e, F⟩ := m_throw0 (X := X) (d := d) (f := 1) (tk := a_p a) h h.1.2.1 (by have := PM_len0 h; omega)
    rw [e]
    exact ⟨σ', rfl, F⟩
theorem mThV0 {f : Int32} {tk : Nat} (h : PM0 mi O T N a σ) (ht : tk ≤ N) (ht8 : tk ≤ 801) : SMV mi O T N (sm_bP (sm_callM X true (d + 1) 200 [vP (23, 0), vI f, vI (Int32.ofNat tk)] σ) sm_tw fun y1 s2 => sm_rq y1 24 fun _ => sm_tw s2) (.inl (f, tk)) := m_throw0 h ht ht8
theorem m_w0 {j : Nat} {c w : Int32} (h : PM0 mi O T N a σ) (hj : j < 15) (hc : c = 200 + Int32.ofNat j) (hw : w = Int32.ofNat j) : sm_callM X true (d + 1) 205 [vP (23, 0), vI w] σ = rI (if T.1 (a_p a) = c then 1 else 0) σ := by
  subst hc hw; exact m_isWord0 h hj
theorem PM_nm0 (h : PM0 mi O T N a σ) (q : T.1 (a_p a) = 3) : σ.2.1 70 0 (a_p a) = pk8 (T.2.1 (a_p a)) 0 := by
  rw [PM_vl0 h (by rw [q]; decide)]; unfold mvl; rw [if_pos q]
theorem m_procOf_20 {n : List Int32} (hn : nmOk n) (h : PM0 mi O T N a σ) : ∀ (m k : Nat) (d2 : sm_V), k + m = (a_q a).length → sm_go (sm_ZZ X) sm_PP true (sm_callM X true (d + 6)) 210 2 [vP (23, 0), vL (pk8 n 0), d2, vI (Int32.ofNat k)] [] σ = rI (match qFind n ((a_q a).drop k) k with | some i => Int32.ofNat i | none => whr n sm_fives 12) σ
  | 0, k, d2, hk => by
    obtain ⟨a1, a2, a3, a4⟩ := h.2.2.1
    rw [q_X13_procOf_2, PM_cd0 h, rq_t, a1, if_neg (by rw [i_lt (by omega) (by omega)]; omega), m_five hn, bI_r, List.drop_eq_nil_of_le (by omega)]
    rfl
  | m + 1, k, d2, hk => by
    obtain ⟨a1, a2, a3, a4⟩ := h.2.2.1
    have hkl : k < (a_q a).length := by omega
    have hg := List.getElem?_eq_getElem hkl
    obtain ⟨b1, b2, b⟩ := a4 k _ hg
    rw [q_X13_procOf_2, PM_cd0 h, rq_t, a1, if_pos (by rw [i_lt (by omega) (by omega)]; omega), rq_t, ix_nat (by omega) (by decide), b1, List.drop_eq_getElem_cons hkl]
    by_cases q : (a_q a)[k].1 = n
    · rw [if_pos ((lgc _ _).mpr ((pk8_inj b2 hn).mpr q))]
      unfold qFind
      rw [if_pos q]
    · rw [if_neg (fun z => q ((pk8_inj b2 hn).mp ((lgc _ _).mp z))), i_s]
      have e0 : qFind n ((a_q a)[k] :: (a_q a).drop (k + 1)) k = qFind n ((a_q a).drop (k + 1)) (k + 1) := by
        show (if (a_q a)[k].1 = n then _ else _) = _
        rw [if_neg q]
      rw [e0]
      exact m_procOf_20 hn h m (k + 1) _ (by omega)
theorem m_procOf0 {n : List Int32} (hn : nmOk n) (h : PM0 mi O T N a σ) : sm_callM X true (d + 7) 210 [vP (23, 0), vL (pk8 n 0)] σ = rI (pFind n (a_q a)) σ := by
  rw [f_X13_procOf, q_X13_procOf_0]
  exact m_procOf_20 (d := d) hn h (a_q a).length 0 vU (by omega)
theorem PM_addQ0 {n : List Int32} (h : PM0 mi O T N a σ) (hn : nmOk n) (hq : (a_q a).length < 12) (hb : a_b a = (a_q a).length) : PM0 mi O T N (aQ a (a_q a ++ [(n, 38, [], zL a)])) (sI (sI (sI (sL (sI σ 23 0 12 (Int32.ofNat (a_q a).length)) 58 mi (a_q a).length (pk8 n 0)) 60 mi (a_q a).length 0) 59 mi (a_q a).length 38) 22 mi 0 (Int32.ofNat ((a_q a).length + 1))) := by
  obtain ⟨h1, h2, ⟨p1, p2, p3, p4⟩, h4, h5, h6, h7⟩ := h
  have hl : (a_q a ++ [(n, 38, [], zL a)]).length = (a_q a).length + 1 := by rw [List.length_append]; rfl
  refine ⟨MT_o (MT_o (MT_o (MT_L (MT_o h1 (by omega)) (by omega)) (by omega)) (by omega)) (by omega), MV_o (MV_o (MV_o (MV_L (MV_o h2 (by omega))) (by omega)) (by omega)) (by omega), ⟨?_, ?_, fun _ => ?_, fun i q hi => ?_⟩, MN0_o (MN0_o (MN0_o (MN0_L (MN0_o h4 (by omega)) (by omega)) (by omega)) (by omega)) (by omega), MX_o (a := a) (MX_o (MX_o (MX_L (MX_o h5 (by omega))) (by omega)) (by omega)) (by omega), h6, OM_I (OM_I (OM_I (OM_L (OM_I h7 (by omega))) (fun _ => rfl)) (fun _ => rfl)) (fun _ => rfl)⟩
  · show _ = Int32.ofNat (a_q a ++ [(n, 38, [], zL a)]).length
    rw [gI, if_pos ⟨rfl, rfl, rfl⟩, hl]
  · show (a_q a ++ [(n, 38, [], zL a)]).length ≤ 12
    omega
  · show _ = Int32.ofNat ((a_q a ++ [(n, 38, [], zL a)]).length - 1)
    rw [hl, gI, if_neg (by omega), gI, if_neg (by omega), gI, if_neg (by omega), gLI, gI, if_pos ⟨rfl, rfl, rfl⟩]; rfl
  · have hi : (a_q a ++ [(n, 38, [], zL a)])[i]? = some q := hi
    rcases Nat.lt_or_ge i (a_q a).length with z | z
    · rw [List.getElem?_append_left z] at hi
      obtain ⟨b1, b2, b3, b4, b5, b6, b7, b8⟩ := p4 i q hi
      refine ⟨?_, b2, b3, fun w => ?_, b5, ?_, ?_, fun j t hj => ?_⟩
      · show (sL (sI σ 23 0 12 _) 58 mi (a_q a).length (pk8 n 0)).2.1 58 mi i = _
        rw [gL, if_neg (by omega)]; exact b1
      · rw [gI, if_neg (by omega), gI, if_neg (by omega), gI, if_neg (by omega), gLI, gI, if_neg (by omega)]; exact b4 w
      · rw [gI, if_neg (by omega), gI, if_neg (by omega), gI, if_neg (by omega), gLI, gI, if_neg (by omega)]; exact b6
      · rw [gI, if_neg (by omega), gI, if_neg (by omega), gI, if_neg (by omega), gLI, gI, if_neg (by omega)]; exact b7
      · rw [gI, if_neg (by omega), gI, if_neg (by omega), gI, if_neg (by omega), gLI, gI, if_neg (by omega)]; exact b8 j t hj
    · have hz := (List.getElem?_eq_some_iff.mp hi).1
      rw [hl] at hz
      have hi2 : i = (a_q a).length := by omega
      subst hi2
      have he : q = (n, 38, [], zL a) := by simp at hi; exact hi.symm
      subst he
      refine ⟨?_, hn, Nat.le_refl _, fun w => ?_, Nat.zero_le _, ?_, ?_, fun j t hj => by cases hj⟩
      · show (sL (sI σ 23 0 12 _) 58 mi (a_q a).length (pk8 n 0)).2.1 58 mi (a_q a).length = _
        rw [gL, if_pos ⟨rfl, rfl, rfl⟩]
      · exfalso
        have w : (a_q a).length < a_b a := w
        omega
      · rw [gI, if_neg (by omega), gI, if_neg (by omega), gI, if_pos ⟨rfl, rfl, rfl⟩]; rfl
      · rw [gI, if_neg (by omega), gI, if_pos ⟨rfl, rfl, rfl⟩]
theorem mnV0 {k : sm_S → sm_R} {k' : Int32 → zA → zR} (hT : TK T N) (h : PM0 mi O T N a σ) (h6 : T.1 (a_p a) ≠ 6) (h7 : T.1 (a_p a) ≠ 7) (hk : ∀ σ', a_p a ≠ 800 → PM0 mi O T N (aP a (a_p a + 1)) σ' → SMV mi O T N (k σ') (k' 0 (aP a (a_p a + 1)))) : SMV mi O T N (sm_bV (sm_callM X true (d + 2) 203 [vP (23, 0)] σ) sm_tw k) (pb (zN a) k') :=
  mb0V (m_next0 hT h h6 h7) (fun y a1 σ1 e1 h1 => by
    obtain ⟨n1, e1⟩ := zN_inr.mp e1
    cases e1
    exact hk σ1 n1 h1)
theorem PM_clr (h : PM0 mi O T N a σ) : PM mi O T N (aR (aM (aK a []) 0) 0) (sI (sI (sI σ 23 0 16 0) 23 0 15 0) 23 0 14 0) := by
  obtain ⟨h1, h2, h3, -, h5, h6, h7⟩ := h
  have hn : MN [] 0 (sI (sI σ 23 0 16 0) 23 0 15 0) := ⟨by rw [gI, if_pos ⟨rfl, rfl, rfl⟩]; rfl, by rw [gI, if_neg (by omega), gI, if_pos ⟨rfl, rfl, rfl⟩]; rfl, Nat.zero_le _, Nat.le_refl _, fun j e hj => (by cases hj)⟩
  have hP : PM mi O T N (aM (aK a []) 0) (sI (sI σ 23 0 16 0) 23 0 15 0) := ⟨MT_o (MT_o h1 (by omega)) (by omega), MV_o (MV_o h2 (by omega)) (by omega), MQp_o (MQp_o h3 (by omega)) (by omega), hn, MX_o (a := a) (MX_o h5 (by omega)) (by omega), h6, OM_I (OM_I h7 (by omega)) (by omega)⟩
  exact PM_br (n := 0) hP
theorem m_proc0 (hT : TK T N) (h : PM0 mi O T N a σ) (hi : TI a) (hb : a_b a = (a_q a).length) : SMV mi O T N (sm_callM X true (d + 406) 211 [vP (23, 0)] σ) (zProc T a) := by
  rw [f_X13_proc, q_X13_proc_0, m_w0 (j := 0) (c := 200) (w := 0) h (by omega) (by decide) rfl, bI_r, zProc_e]
  unfold zHead
  rw [pb_pb, pb_must]
  refine mfV0 (d := d + 403) h bz (fun k0 => ?_)
  refine mnV0 (d := d + 403) hT h (by rw [k0]; decide) (by rw [k0]; decide) (fun σ1 n1 h1 => ?_)
  obtain ⟨i1, i2, i3, i4, i5, i6⟩ := hi
  have TI1 : TI (aP a (a_p a + 1)) := ⟨i1, by show zL a ≤ a_p a + 1; omega, i3, i4, i5, by show 9 * (a_c a).length ≤ a_p a + 1; omega⟩
  have hx : zL (aP a (a_p a + 1)) + 1 ≤ a_p (aP a (a_p a + 1)) ∧ 9 * (a_c (aP a (a_p a + 1))).length + 1 ≤ a_p (aP a (a_p a + 1)) := ⟨by show zL a + 1 ≤ a_p a + 1; omega, by show 9 * (a_c a).length + 1 ≤ a_p a + 1; omega⟩
  have hb1 : a_b (aP a (a_p a + 1)) = (a_q (aP a (a_p a + 1))).length := hb
  generalize aP a (a_p a + 1) = a1 at *
  have h12 := h1.2.2.1.2.1
  have hp1 := h1.1.2.1
  have hp18 := PM_len0 h1
  have hH : ∀ (y : Int32) (b : zA), zPNm T a1 = .inr (y, b) → HI (aR (aM (aK b []) 0) 0) := fun y b e => (PNm_H TI1 hx hp18 e).1
  revert hH
  unfold zPNm
  rw [PM_ix0 h1, PM_kd0 h1, pb_pb]
  intro hH
  have key : ∀ y : Int32, (y = 0 ↔ ¬ T.1 (a_p a1) = 3) → SMV mi O T N (sm_go (sm_ZZ X) sm_PP true (sm_callM X true (d + 405)) 211 32 [vP (23, 0)] [vI y, vP (23, 0)] σ1) (pb (if T.1 (a_p a1) = 3 then (if pFind (T.2.1 (a_p a1)) (a_q a1) = -1 then (if (a_q a1).length = 12 then .inl (5, a_p a1) else
      pb (zN (aQ a1 (a_q a1 ++ [(T.2.1 (a_p a1), 38, [], zL a1)]))) (fun _ a2 => .inr (0, a2))) else .inl (3, a_p a1)) else .inl (1, a_p a1)) (fun _ a2 => pb (pb (zMust T 40 (aR (aM (aK a2 []) 0) 0)) (fun _ a3 => pb (if T.1 (a_p a3) = 41 then .inr (0, a3) else zPars T 801 a3) (fun _ a4 => pb (zMust T 41 a4) (fun _ a5 => zGiv T a5)))) (zBody T))) := by
    intro y hy
    rw [q_X13_proc_32, if_pos rfl]
    have e0 : ∀ (r : zR) (k : Int32 → zA → zR), pb (if T.1 (a_p a1) = 3 then r else .inl (1, a_p a1)) k = if T.1 (a_p a1) = 3 then pb r k else .inl (1, a_p a1) := by
      intro r k
      by_cases z : T.1 (a_p a1) = 3
      · rw [if_pos z, if_pos z]
      · rw [if_neg z, if_neg z]; rfl
    rw [e0]
    refine mfV0 (d := d + 403) h1 hy (fun k3 => ?_)
    have hn := hT.2.2.2.1 _ k3
    rw [PM_ix0 h1, PM_nm0 h1 k3, m_procOf0 (d := d + 398) hn h1, bI_r]
    rw [if_pos k3] at hH
    by_cases f1 : pFind (T.2.1 (a_p a1)) (a_q a1) = -1
    · rw [if_pos f1, if_pos f1, PM_cd0 h1, rq_t, h1.2.2.1.1]
      rw [if_pos f1] at hH
      by_cases q12 : (a_q a1).length = 12
      · rw [if_pos (show Int32.ofNat (a_q a1).length = 12 by rw [q12]; rfl), if_pos q12, PM_at0 h1]
        exact mThV0 (d := d + 404) h1 hp1 (by omega)
      · rw [if_neg (fun z : Int32.ofNat (a_q a1).length = 12 => q12 ((i_eq (b := 12) (by omega) (by decide)).mp z)), if_neg q12]
        rw [if_neg q12] at hH
        have l12 : (a_q a1).length < 12 := by omega
        have hA := PM_addQ0 h1 hn l12 hb1
        rw [rq_t, h1.2.2.1.1]
        have c1 : (sI σ1 23 0 12 (Int32.ofNat (a_q a1).length)).2.2.1 23 0 7 = (22, mi) := (show σ1.2.2.1 23 0 7 = (22, mi) from PM_cd0 h1)
        have c2 : (sI σ1 23 0 12 (Int32.ofNat (a_q a1).length)).1 23 0 11 = Int32.ofNat (a_p a1) := (show σ1.1 23 0 11 = _ from PM_at0 h1)
        have c3 : (sI σ1 23 0 12 (Int32.ofNat (a_q a1).length)).1 23 0 12 = Int32.ofNat (a_q a1).length := by rw [gI, if_pos ⟨rfl, rfl, rfl⟩]
        have c4 : (sI σ1 23 0 12 (Int32.ofNat (a_q a1).length)).2.1 70 0 (a_p a1) = pk8 (T.2.1 (a_p a1)) 0 := (show σ1.2.1 70 0 (a_p a1) = _ from PM_nm0 h1 k3)
        rw [c1, rq_t, c2, ix_nat (by omega) (by decide), c3, ix_nat l12 (by decide), c4]
        have c5 : (sL (sI σ1 23 0 12 (Int32.ofNat (a_q a1).length)) 58 mi (a_q a1).length (pk8 (T.2.1 (a_p a1)) 0)).2.2.1 23 0 7 = (22, mi) := c1
        have c6 : (sL (sI σ1 23 0 12 (Int32.ofNat (a_q a1).length)) 58 mi (a_q a1).length (pk8 (T.2.1 (a_p a1)) 0)).1 23 0 12 = Int32.ofNat (a_q a1).length := c3
        rw [c5, rq_t, c6, ix_nat l12 (by decide)]
        have c7 : (sI (sL (sI σ1 23 0 12 (Int32.ofNat (a_q a1).length)) 58 mi (a_q a1).length (pk8 (T.2.1 (a_p a1)) 0)) 60 mi (a_q a1).length 0).2.2.1 23 0 7 = (22, mi) := c1
        have c8 : (sI (sL (sI σ1 23 0 12 (Int32.ofNat (a_q a1).length)) 58 mi (a_q a1).length (pk8 (T.2.1 (a_p a1)) 0)) 60 mi (a_q a1).length 0).1 23 0 12 = Int32.ofNat (a_q a1).length := by rw [gI, if_neg (by omega)]; exact c6
        rw [c7, rq_t, c8, ix_nat l12 (by decide)]
        have c9 : (sI (sI (sL (sI σ1 23 0 12 (Int32.ofNat (a_q a1).length)) 58 mi (a_q a1).length (pk8 (T.2.1 (a_p a1)) 0)) 60 mi (a_q a1).length 0) 59 mi (a_q a1).length 38).2.2.1 23 0 7 = (22, mi) := c1
        have c10 : (sI (sI (sL (sI σ1 23 0 12 (Int32.ofNat (a_q a1).length)) 58 mi (a_q a1).length (pk8 (T.2.1 (a_p a1)) 0)) 60 mi (a_q a1).length 0) 59 mi (a_q a1).length 38).1 22 mi 0 = Int32.ofNat (a_q a1).length := by
          rw [gI, if_neg (by omega), gI, if_neg (by omega), gLI, gI, if_neg (by omega)]; exact h1.2.2.1.1
        rw [c9, rq_t, rq_t, c10, i_s, pb_pb]
        have hqn : HQ (a_q a1).length (aQ a1 (a_q a1 ++ [(T.2.1 (a_p a1), 38, [], zL a1)])) := ⟨hb1, by show (a_q a1 ++ _).length = _; rw [List.length_append]; rfl, (T.2.1 (a_p a1), 38, [], zL a1), by show (a_q a1 ++ _)[(a_q a1).length]? = _; simp, rfl⟩
        have kA : T.1 (a_p (aQ a1 (a_q a1 ++ [(T.2.1 (a_p a1), 38, [], zL a1)]))) = 3 := k3
        refine mnV0 (d := d + 403) hT hA (by rw [kA]; decide) (by rw [kA]; decide) (fun σ2 n2 h2 => ?_)
        have hi2 := hH 0 (aP (aQ a1 (a_q a1 ++ [(T.2.1 (a_p a1), 38, [], zL a1)])) (a_p (aQ a1 (a_q a1 ++ [(T.2.1 (a_p a1), 38, [], zL a1)])) + 1)) (by unfold zN; rw [if_neg n2]; rfl)
        have hq2 : HQ (a_q a1).length (aP (aQ a1 (a_q a1 ++ [(T.2.1 (a_p a1), 38, [], zL a1)])) (a_p (aQ a1 (a_q a1 ++ [(T.2.1 (a_p a1), 38, [], zL a1)])) + 1)) := hqn
        generalize aP (aQ a1 (a_q a1 ++ [(T.2.1 (a_p a1), 38, [], zL a1)])) (a_p (aQ a1 (a_q a1 ++ [(T.2.1 (a_p a1), 38, [], zL a1)])) + 1) = a2 at *
        rw [pb_r, pb_pb]
        have h3 : PM mi O T N (aR (aM (aK a2 []) 0) 0) (sI (sI (sI σ2 23 0 16 0) 23 0 15 0) 23 0 14 0) := PM_clr h2
        have hq3 : HQ (a_q a1).length (aR (aM (aK a2 []) 0) 0) := hq2
        generalize aR (aM (aK a2 []) 0) 0 = a3 at *
        generalize sI (sI (sI σ2 23 0 16 0) 23 0 15 0) 23 0 14 0 = σ3 at *
        refine mbVV (m_must (d := d + 402) hT h3 (by decide)) (fun _ a4 σ4 e4 h4 => ?_)
        obtain ⟨k4, n4, e4⟩ := zMust_inr.mp e4
        have E4 : a4 = aP a3 (a_p a3 + 1) := congrArg Prod.snd e4
        have hi4 : HI a4 := by rw [E4]; exact HI_P hi2 (by omega)
        have hq4 : HQ (a_q a1).length a4 := by rw [E4]; exact hq3
        rw [m_is h4 (by decide), bI_r, pb_pb]
        by_cases k41 : T.1 (a_p a4) = 41
        · rw [if_pos k41, if_neg (by decide), if_pos k41, pb_r, pb_pb]
          exact m_194 (d := d) hT h4 hi4 hq4
        · rw [if_neg k41, if_pos rfl, if_neg k41, f_X13_params, q_X13_params_0]
          refine mbVV (m_pars (d := d + 399) hT 801 a4 σ4 vU h4 hi4 (by omega)) (fun y5 a5 σ5 e5 h5 => ?_)
          rw [pb_pb]
          exact m_194 (d := d) hT h5 (Pars_H hT 801 a4 _ a5 hi4 (PM_len h4) e5).1 (HQ_pars hT 801 a4 _ a5 hi4 hq4 (PM_len h4) e5)
    · rw [if_neg f1, if_neg f1, PM_at0 h1]
      exact mThV0 (d := d + 404) h1 hp1 (by omega)
  by_cases q : T.1 (a_p a1) = 3
  · rw [if_pos ((mkd_v _).1.mpr q)]
    exact key 1 ⟨fun z => absurd z (by decide), fun z => absurd q z⟩
  · rw [if_neg (fun z => q ((mkd_v _).1.mp z))]
    exact key 0 ⟨fun _ => q, fun _ => rfl⟩
end
