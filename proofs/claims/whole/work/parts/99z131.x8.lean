section
variable {T : zT} {N : Nat} {a b c a0 : zA} {sub : zA → zR} {t u y : Int32} {P : List Nat}
theorem tV_18 (hT : TK T N) {p : Nat} (h : T.1 p = 5) (h36 : tV T p ≠ 36) : ∃ k, k < 18 ∧ tV T p = Int32.ofNat k := by
  rcases tV_k hT h with q | q
  · exact q
  · exact absurd q h36
theorem k18 : ∀ k, k < 18 → (18 + Int32.ofNat k = Int32.ofNat (18 + k) ∧ (Int32.ofNat k < 13 → k < 13)) := by decide
theorem SubG_u (hs : SubG sub) (h : sub a = .inr (y, b)) (hq : QB a) (hS : (a_t a).length ≤ 2 + 6 * a_o a) (ho : a_o a ≤ 10) : XG a b ∧ a_t b = y :: a_t a ∧ zL a < zL b ∧ a_o b = a_o a ∧ (a_w b).1 = 0 := hs a y b hq hS ho h
theorem G_new (hT : TK T N) (hs : SubG sub) (hq : QB a) (hw : (a_w a).1 = 0) (hS : (a_t a).length ≤ 5 + 6 * a_o a) (h : zNew T sub a = .inr (y, b)) : UG a b y := by
  unfold zNew at h
  rw [pb_inr] at h
  obtain ⟨_, a1, h1, h2⟩ := h
  obtain ⟨n1, e1⟩ := zN_inr.mp h1
  cases e1
  rw [it_l, pb_inr] at h2
  obtain ⟨⟨c1, c1'⟩, _, a2, h3, h4⟩ := h2
  obtain ⟨n2, e2⟩ := zN_inr.mp h3
  cases e2
  obtain ⟨k, hk, ek⟩ := tV_18 hT c1 c1'
  split at h4
  · rename_i c2
    rw [pb_inr] at h4
    obtain ⟨_, a3, h5, h6⟩ := h4
    obtain ⟨⟨-, co⟩, n3, e3⟩ := zOpens_inr.mp h5
    cases e3
    rw [it_l, pb_inr] at h6
    obtain ⟨c3, _, a4, h7, h8⟩ := h6
    obtain ⟨n4, e4⟩ := zN_inr.mp h7
    cases e4
    have h8 := Sum.inr.inj h8
    have hy := (congrArg Prod.fst h8).symm
    have hb := (congrArg Prod.snd h8).symm
    have co : a_o a < 10 := co
    have hk13 : k < 13 := (k18 k hk).2 (by rw [← ek]; exact c2.2)
    have hy : y = tV T (a_p a + 1) := hy
    have ek : tV T (a_p a + 1) = Int32.ofNat k := ek
    subst hy
    have hb : b = _ := hb
    subst hb
    refine ⟨XG_S (XG_E (a := aP _ _) (by decide) (by decide) (by decide) ⟨k, hk13, ek, rfl⟩ (by show (a_t a).length ≤ 80; omega)), by show a_o a + 1 - 1 = _; omega, Or.inl ⟨hw, rfl, ?_⟩⟩
    show zL a < zL (zE _ _ _ _ _ _)
    rw [zL_E]; exact Nat.lt_succ_self _
  · rw [pb_inr] at h4
    obtain ⟨_, a3, h5, h6⟩ := h4
    obtain ⟨⟨-, co⟩, n3, e3⟩ := zOpens_inr.mp h5
    cases e3
    rw [pb_inr] at h6
    obtain ⟨t, a4, h7, h8⟩ := h6
    rw [it_l, it_l, pb_inr] at h8
    obtain ⟨c3, c4, _, a5, h9, h10⟩ := h8
    obtain ⟨n4, e4⟩ := zN_inr.mp h9
    cases e4
    have h10 := Sum.inr.inj h10
    have hy := (congrArg Prod.fst h10).symm
    have hb := (congrArg Prod.snd h10).symm
    have co : a_o a < 10 := co
    have ek : tV T (a_p a + 1) = Int32.ofNat k := ek
    have hy : y = 18 + tV T (a_p a + 1) := hy
    obtain ⟨x4, t4, l4, o4, w4⟩ := SubG_u hs h7 hq (by show (a_t a).length ≤ 2 + 6 * (a_o a + 1); omega) (by show a_o a + 1 ≤ 10; omega)
    have x4 : XG a a4 := x4
    have t4 : a_t a4 = 36 :: a_t a := by rw [← c4]; exact t4
    have o4 : a_o a4 = a_o a + 1 := o4
    have l4 : zL a < zL a4 := l4
    have hb : b = _ := hb
    subst hb hy
    refine ⟨XG_S (x4.trans (XG_E (a := aP _ _) (by decide) (by decide) (by decide) ⟨a_t a, k, t4, hk, ek, rfl⟩ (by show (a_t a4).length ≤ 80; rw [t4]; simp only [List.length_cons]; omega))), by show a_o a4 - 1 = _; omega, Or.inl ⟨w4, ?_, ?_⟩⟩
    · show [_] ++ (a_t a4).drop 1 = _
      rw [t4]; rfl
    · show zL a < zL (zE _ _ _ _ _ _)
      rw [zL_E]; show zL a < zL a4 + 1; omega
theorem G_num {p0 : Nat} {v : Int32} (hw : (a_w a).1 = 0) (hS : (a_t a).length ≤ 80) (h : zNum T p0 v a = .inr (y, b)) : UG a b y := by
  unfold zNum at h
  rw [pb_inr] at h
  obtain ⟨_, a1, h1, h2⟩ := h
  obtain ⟨n1, e1⟩ := zN_inr.mp h1
  cases e1
  cases h2
  refine ⟨XG_P (XG_E (by decide) (by decide) (by decide) (Or.inl rfl) hS), rfl, Or.inl ⟨hw, rfl, ?_⟩⟩
  show zL a < zL (zE _ _ _ _ _ _)
  rw [zL_E]; exact Nat.lt_succ_self _
theorem G_fst (hT : TK T N) (hs : SubG sub) (hq : QB a) (hw : (a_w a).1 = 0) (hS : (a_t a).length ≤ 5 + 6 * a_o a) (ho : a_o a ≤ 10) (h : zFst T sub a = .inr (y, b)) : UG a b y := by
  have hS8 : (a_t a).length ≤ 80 := by omega
  unfold zFst at h
  split at h
  · exact G_num hw hS8 h
  split at h
  · rw [pb_inr] at h
    obtain ⟨_, a1, h1, h2⟩ := h
    obtain ⟨n1, e1⟩ := zN_inr.mp h1
    cases e1
    rw [it_l] at h2
    exact G_num (a := aP a (a_p a + 1)) hw hS8 h2.2
  split at h
  · rw [pb_inr] at h
    obtain ⟨_, a1, h1, h2⟩ := h
    obtain ⟨n1, e1⟩ := zN_inr.mp h1
    cases e1
    cases h2
    refine ⟨XG_P (XG_E (by decide) (by decide) (by decide) (Or.inr ⟨rfl, rfl⟩) hS8), rfl, Or.inl ⟨hw, rfl, ?_⟩⟩
    show zL a < zL (zE _ _ _ _ _ _)
    rw [zL_E]; exact Nat.lt_succ_self _
  split at h
  · exact G_new hT hs hq hw hS h
  split at h
  · rw [pb_inr] at h
    obtain ⟨_, a1, h1, h2⟩ := h
    obtain ⟨⟨-, co⟩, n3, e3⟩ := zOpens_inr.mp h1
    cases e3
    rw [pb_inr] at h2
    obtain ⟨t, a2, h3, h4⟩ := h2
    rw [it_l, pb_inr] at h4
    obtain ⟨c2, _, a3, h5, h6⟩ := h4
    obtain ⟨n4, e4⟩ := zN_inr.mp h5
    cases e4
    cases h6
    obtain ⟨x4, t4, l4, o4, w4⟩ := hs (aP (aO a (a_o a + 1)) (a_p a + 1)) _ a2 hq (by show (a_t a).length ≤ 2 + 6 * (a_o a + 1); omega) (by show a_o a + 1 ≤ 10; omega) h3
    have o4 : a_o a2 = a_o a + 1 := o4
    exact ⟨x4, by show a_o a2 - 1 = a_o a; omega, Or.inl ⟨w4, t4, l4⟩⟩
  rw [it_l] at h
  obtain ⟨-, h⟩ := h
  split at h
  · exact G_call hs hq hw hS h
  · revert h
    cases hk : kFind (T.2.1 (a_p a)) (a_k a) with
    | none => intro h; cases h
    | some e =>
      intro h
      have h : pb (zN a) (fun _ a1 => .inr (e.1, aW (aS a1 1) (5, Int32.ofNat e.2, T.2.2.2 (a_p a), e.1))) = .inr (y, b) := h
      rw [pb_inr] at h
      obtain ⟨_, a1, h1, h2⟩ := h
      obtain ⟨n1, e1⟩ := zN_inr.mp h1
      cases e1
      cases h2
      refine ⟨XG.refl a, rfl, Or.inr (Or.inl ⟨e.2, _, rfl, rfl, ?_⟩)⟩
      show (e.2, e.1) ∈ (a_k a).map (fun e => (e.2.2, e.2.1))
      exact List.mem_map.mpr ⟨_, kFind_m hk, rfl⟩
theorem G_first (hT : TK T N) (hs : SubG sub) (hq : QB a) (hS : (a_t a).length ≤ 5 + 6 * a_o a) (ho : a_o a ≤ 10) (h : zFirst T sub a = .inr (y, b)) : UG a b y :=
  G_fst (a := aW (aS a 0) (0, 0, 0, 0)) hT hs hq rfl hS ho h
theorem G_idx (hs : SubG sub) (hq : QB a0) (hS : (a_t a0).length ≤ 5 + 6 * a_o a0) (ho : a_o a0 ≤ 10) (hu : UG a0 a t) (h : zIdx T sub t a = .inr (y, b)) : UG a0 b y := by
  obtain ⟨r1, r2, r3, r4, r5⟩ := UG_reads (by omega) hu
  unfold zIdx at h
  generalize zReads a = z at r1 r2 r3 r4 r5 h
  rw [pb_inr] at h
  obtain ⟨_, a1, h1, h2⟩ := h
  obtain ⟨⟨-, co⟩, n3, e3⟩ := zOpens_inr.mp h1
  cases e3
  rw [pb_inr] at h2
  obtain ⟨u, a2, h3, h4⟩ := h2
  rw [it_l, it_l, pb_inr] at h4
  obtain ⟨c2, c3, _, a3, h5, h6⟩ := h4
  obtain ⟨n4, e4⟩ := zN_inr.mp h5
  cases e4
  cases h6
  obtain ⟨x4, t4, l4, o4, w4⟩ := SubG_u hs h3 (QB_x hq r1) (by show (a_t z).length ≤ 2 + 6 * (a_o z + 1); rw [r2, r4]; simp only [List.length_cons]; omega) (by show a_o z + 1 ≤ 10; have co : a_o z < 10 := co; omega)
  have x4 : XG z a2 := x4
  have o4 : a_o a2 = a_o z + 1 := o4
  have t4 : a_t a2 = 36 :: t :: a_t a0 := by rw [← c3.2, ← r2]; exact t4
  exact ⟨r1.trans x4, by show a_o a2 - 1 = a_o a0; omega, Or.inr (Or.inr (Or.inl ⟨t, _, rfl, t4, c3.1, rfl⟩))⟩
theorem fld_x {n : List Int32} (h : whr n sm_fields 0 ≠ -1) : ∃ f, f < 9 ∧ whr n sm_fields 0 = Int32.ofNat f := by
  rcases whr_ge n sm_fields 0 (by decide) with w | ⟨j, j1, j2, w⟩
  · exact absurd w h
  · have : sm_fields.length = 9 := by decide
    exact ⟨j, by omega, w⟩
theorem G_mem (hS : (a_t a0).length ≤ 5 + 6 * a_o a0) (ho : a_o a0 ≤ 10) (hu : UG a0 a t) (h : zMem T t a = .inr (y, b)) : UG a0 b y := by
  obtain ⟨r1, r2, r3, r4, r5⟩ := UG_reads (by omega) hu
  have hl : (a_t (zReads a)).length ≤ 80 := by rw [r2]; simp only [List.length_cons]; omega
  unfold zMem at h
  generalize zReads a = z at r1 r2 r3 r4 r5 h hl
  rw [pb_inr] at h
  obtain ⟨_, a1, h1, h2⟩ := h
  obtain ⟨n1, e1⟩ := zN_inr.mp h1
  cases e1
  split at h2
  · rw [it_l, pb_inr] at h2
    obtain ⟨c1, _, a2, h3, h4⟩ := h2
    obtain ⟨n2, e2⟩ := zN_inr.mp h3
    cases e2
    cases h4
    refine ⟨XG_S (XG_P (r1.trans (XG_E (a := aP _ _) (by decide) (by decide) (by decide) ⟨t, a_t a0, r2, c1, rfl⟩ hl))), r4, Or.inl ⟨r5, ?_, ?_⟩⟩
    · show [(36 : Int32)] ++ (a_t z).drop 1 = _
      rw [r2]; rfl
    · show zL a0 < zL (zE _ _ _ _ _ _)
      rw [zL_E]; show zL a0 < zL z + 1; omega
  · rw [it_l, it_r, it_l, pb_inr] at h2
    obtain ⟨c1, c2, c3, _, a2, h3, h4⟩ := h2
    obtain ⟨n2, e2⟩ := zN_inr.mp h3
    cases e2
    obtain ⟨f, f9, ef⟩ := fld_x c2
    rw [ef] at h4 c3
    cases h4
    exact ⟨r1, r4, Or.inr (Or.inr (Or.inr ⟨t, f, _, rfl, f9, r2, c3, rfl⟩))⟩
theorem G_ask (hT : TK T N) (hS : (a_t a0).length ≤ 5 + 6 * a_o a0) (ho : a_o a0 ≤ 10) (hu : UG a0 a t) (h : zAsk T t a = .inr (y, b)) : UG a0 b y := by
  obtain ⟨r1, r2, r3, r4, r5⟩ := UG_reads (by omega) hu
  have hl : (a_t (zReads a)).length ≤ 80 := by rw [r2]; simp only [List.length_cons]; omega
  unfold zAsk at h
  generalize zReads a = z at r1 r2 r3 r4 r5 h hl
  rw [pb_inr] at h
  obtain ⟨_, a1, h1, h2⟩ := h
  obtain ⟨n1, e1⟩ := zN_inr.mp h1
  cases e1
  obtain ⟨k1, -, h3⟩ := zAskT_inr h2
  have key : ∀ (v : Int32) (p : Nat), cAsk t v = 1 → (∃ n, n < 36 ∧ v = Int32.ofNat n) → (if T.1 (a_p a) = 213 then (Sum.inr (v, aS (zE (aP z p) 13 v 0 v (T.2.2.2 (a_p a))) 0) : zR) else .inr (36, aS (zE (aP z p) 14 v 0 36 (T.2.2.2 (a_p a))) 0)) = .inr (y, b) → UG a0 b y := by
    intro v p hv hn hh
    split at hh
    · cases hh
      refine ⟨XG_S (r1.trans (XG_E (a := aP _ _) (by decide) (by decide) (by decide) ⟨t, a_t a0, r2, hv, rfl, hn⟩ hl)), r4, Or.inl ⟨r5, ?_, ?_⟩⟩
      · show [_] ++ (a_t z).drop 1 = _
        rw [r2]; rfl
      · show zL a0 < zL (zE _ _ _ _ _ _)
        rw [zL_E]; show zL a0 < zL z + 1; omega
    · cases hh
      refine ⟨XG_S (r1.trans (XG_E (a := aP _ _) (by decide) (by decide) (by decide) ⟨t, a_t a0, r2, hv, rfl, hn⟩ hl)), r4, Or.inl ⟨r5, ?_, ?_⟩⟩
      · show [_] ++ (a_t z).drop 1 = _
        rw [r2]; rfl
      · show zL a0 < zL (zE _ _ _ _ _ _)
        rw [zL_E]; show zL a0 < zL z + 1; omega
  rcases h3 with ⟨q1, -, -, -, -, q2, h3⟩ | ⟨-, q2, h3⟩
  · obtain ⟨k, hk, ek⟩ := tV_18 hT k1 q1
    exact key _ _ q2 ⟨18 + k, by omega, by rw [ek]; exact (k18 k hk).1⟩ h3
  · refine key _ _ q2 ?_ h3
    rcases tV_k hT k1 with ⟨k, hk, ek⟩ | ek
    · exact ⟨k, by omega, ek⟩
    · rw [ek] at q2
      exfalso
      unfold cAsk at q2
      rw [show cRef 36 = 0 by decide] at q2
      split at q2
      · exact absurd q2 (by decide)
      · rw [if_pos rfl] at q2; exact absurd q2 (by decide)
theorem G_UL (hT : TK T N) (hs : SubG sub) (hq : QB a0) (hS : (a_t a0).length ≤ 5 + 6 * a_o a0) (ho : a_o a0 ≤ 10) : ∀ (f : Nat) (t : Int32) (a : zA) (y : Int32) (b : zA), UG a0 a t → zUL T sub f t a = .inr (y, b) → UG a0 b y
  | 0, t, a, y, b, _, h => by cases h
  | f + 1, t, a, y, b, hu, h => by
    rw [zUL] at h
    split at h
    · rw [pb_inr] at h
      obtain ⟨u, a1, h1, h2⟩ := h
      exact G_UL hT hs hq hS ho f u a1 y b (G_idx hs hq hS ho hu h1) h2
    split at h
    · rw [pb_inr] at h
      obtain ⟨u, a1, h1, h2⟩ := h
      exact G_UL hT hs hq hS ho f u a1 y b (G_mem hS ho hu h1) h2
    split at h
    · rw [pb_inr] at h
      obtain ⟨u, a1, h1, h2⟩ := h
      exact G_UL hT hs hq hS ho f u a1 y b (G_ask hT hS ho hu h1) h2
    · cases h; exact hu
theorem G_unit (hT : TK T N) (hs : SubG sub) (hq : QB a) (hS : (a_t a).length ≤ 5 + 6 * a_o a) (ho : a_o a ≤ 10) (h : zUnit T sub a = .inr (y, b)) : UG a b y := by
  unfold zUnit at h
  rw [pb_inr] at h
  obtain ⟨t, a1, h1, h2⟩ := h
  exact G_UL hT hs hq hS ho 801 t a1 y b (G_first hT hs hq hS ho h1) h2
/-- what a value leaves -/
def VG (a b : zA) (y : Int32) : Prop := XG a b ∧ a_t b = y :: a_t a ∧ zL a < zL b ∧ a_o b = a_o a ∧ (a_w b).1 = 0
theorem G_UV (hT : TK T N) (hs : SubG sub) (hq : QB a) (hS : (a_t a).length ≤ 5 + 6 * a_o a) (ho : a_o a ≤ 10) (h : zUV T sub a = .inr (y, b)) : VG a b y := by
  unfold zUV at h
  rw [pb_inr] at h
  obtain ⟨t, a1, h1, h2⟩ := h
  cases h2
  exact UG_reads (by omega) (G_unit hT hs hq hS ho h1)
/-- a sign between two ints -/
theorem VG_bin {op : Nat} {pl : Int32} {a1 a2 : zA} (hop : op = 7 ∨ op = 8 ∨ op = 9) (hS : (a_t a).length ≤ 70) (h1 : VG a a1 36) (h2 : VG (aP a1 (a_p a1 + 1)) a2 36) : VG a (zE a2 op 0 0 36 pl) 36 := by
  obtain ⟨x1, t1, l1, o1, w1⟩ := h1
  obtain ⟨x2, t2, l2, o2, w2⟩ := h2
  have x2 : XG a1 a2 := x2
  have t2 : a_t a2 = 36 :: 36 :: a_t a := by rw [← t1]; exact t2
  have l2 : zL a1 < zL a2 := l2
  have o2 : a_o a2 = a_o a1 := o2
  have ht : tOk (a_q a2) (op, 0, 0, pl, 36, gNow a2) := by rcases hop with rfl | rfl | rfl <;> exact ⟨a_t a, t2, rfl⟩
  have ef : effS (a_q a2) op 0 36 (a_t a2) = 36 :: a_t a := by rw [t2]; rcases hop with rfl | rfl | rfl <;> rfl
  refine ⟨x1.trans (x2.trans (XG_E (by omega) (by omega) (by omega) ht (by rw [t2]; simp only [List.length_cons]; omega))), ef, ?_, o2.trans o1, w2⟩
  rw [zL_E]; omega
theorem G_PL (hT : TK T N) (hs : SubG sub) (hq : QB a0) (hS : (a_t a0).length ≤ 4 + 6 * a_o a0) (ho : a_o a0 ≤ 10) : ∀ (f : Nat) (t : Int32) (a : zA) (y : Int32) (b : zA), VG a0 a t → zPL T sub f t a = .inr (y, b) → VG a0 b y
  | 0, t, a, y, b, _, h => by cases h
  | f + 1, t, a, y, b, hu, h => by
    rw [zPL] at h
    split at h
    · rw [it_l, pb_inr] at h
      obtain ⟨c1, _, a1, h1, h2⟩ := h
      obtain ⟨n1, e1⟩ := zN_inr.mp h1
      cases e1
      rw [pb_inr] at h2
      obtain ⟨u, a2, h3, h4⟩ := h2
      rw [it_l] at h4
      obtain ⟨c2, h4⟩ := h4
      subst c1 c2
      have k : VG (aP a (a_p a + 1)) a2 36 := G_UV hT hs (QB_x hq hu.1) (by show (a_t a).length ≤ 5 + 6 * a_o a; rw [hu.2.1, hu.2.2.2.1]; simp only [List.length_cons]; omega) (by show a_o a ≤ 10; rw [hu.2.2.2.1]; exact ho) h3
      exact G_PL hT hs hq hS ho f 36 _ y b (VG_bin (Or.inr (Or.inr rfl)) (by omega) hu k) h4
    · cases h; exact hu
theorem G_prod (hT : TK T N) (hs : SubG sub) (hq : QB a) (hS : (a_t a).length ≤ 4 + 6 * a_o a) (ho : a_o a ≤ 10) (h : zProd T sub a = .inr (y, b)) : VG a b y := by
  unfold zProd at h
  rw [pb_inr] at h
  obtain ⟨t, a1, h1, h2⟩ := h
  exact G_PL hT hs hq hS ho 801 t a1 y b (G_UV hT hs hq (by omega) ho h1) h2
theorem G_SL (hT : TK T N) (hs : SubG sub) (hq : QB a0) (hS : (a_t a0).length ≤ 3 + 6 * a_o a0) (ho : a_o a0 ≤ 10) : ∀ (f : Nat) (t : Int32) (a : zA) (y : Int32) (b : zA), VG a0 a t → zSL T sub f t a = .inr (y, b) → VG a0 b y
  | 0, t, a, y, b, _, h => by cases h
  | f + 1, t, a, y, b, hu, h => by
    rw [zSL] at h
    split at h
    · rw [it_l, pb_inr] at h
      obtain ⟨c1, _, a1, h1, h2⟩ := h
      obtain ⟨n1, e1⟩ := zN_inr.mp h1
      cases e1
      rw [pb_inr] at h2
      obtain ⟨u, a2, h3, h4⟩ := h2
      rw [it_l] at h4
      obtain ⟨c2, h4⟩ := h4
      subst c1 c2
      have k : VG (aP a (a_p a + 1)) a2 36 := G_prod hT hs (QB_x hq hu.1) (by show (a_t a).length ≤ 4 + 6 * a_o a; rw [hu.2.1, hu.2.2.2.1]; simp only [List.length_cons]; omega) (by show a_o a ≤ 10; rw [hu.2.2.2.1]; exact ho) h3
      refine G_SL hT hs hq hS ho f 36 _ y b (VG_bin ?_ (by omega) hu k) h4
      split
      · exact Or.inl rfl
      · exact Or.inr (Or.inl rfl)
    · cases h; exact hu
theorem G_sum (hT : TK T N) (hs : SubG sub) (hq : QB a) (hS : (a_t a).length ≤ 3 + 6 * a_o a) (ho : a_o a ≤ 10) (h : zSum T sub a = .inr (y, b)) : VG a b y := by
  unfold zSum at h
  rw [pb_inr] at h
  obtain ⟨t, a1, h1, h2⟩ := h
  exact G_SL hT hs hq hS ho 801 t a1 y b (G_prod hT hs hq (by omega) ho h1) h2
theorem G_Ex (hT : TK T N) (hs : SubG sub) : SubG (zEx T sub) := by
  intro a y b hq hS ho h
  unfold zEx at h
  rw [pb_inr] at h
  obtain ⟨t, a1, h1, h2⟩ := h
  have hu : VG a a1 t := G_sum hT hs hq (by omega) ho h1
  split at h2
  · rw [it_l, pb_inr] at h2
    obtain ⟨c1, _, a2, h3, h4⟩ := h2
    obtain ⟨n1, e1⟩ := zN_inr.mp h3
    cases e1
    rw [pb_inr] at h4
    obtain ⟨u, a3, h5, h6⟩ := h4
    rw [it_l] at h6
    obtain ⟨c2, h6⟩ := h6
    have k : VG (aP a1 (a_p a1 + 1)) a3 u := G_sum hT hs (QB_x hq hu.1) (by show (a_t a1).length ≤ 3 + 6 * a_o a1; rw [hu.2.1, hu.2.2.2.1]; simp only [List.length_cons]; omega) (by show a_o a1 ≤ 10; rw [hu.2.2.2.1]; exact ho) h5
    obtain ⟨x1, t1, l1, o1, w1⟩ := hu
    obtain ⟨x2, t2, l2, o2, w2⟩ := k
    have x2 : XG a1 a3 := x2
    have t2 : a_t a3 = u :: t :: a_t a := by rw [← t1]; exact t2
    have l2 : zL a1 < zL a3 := l2
    have o2 : a_o a3 = a_o a1 := o2
    cases h6
    have hl : (a_t a3).length ≤ 80 := by rw [t2]; simp only [List.length_cons]; omega
    have hc : (t = 36 ∧ u = 36) ∨ (cRef t = 1 ∧ cRef u = 1) := by
      by_cases q : t = 36
      · rw [if_pos q] at c2; exact Or.inl ⟨q, c2⟩
      · rw [if_neg q] at c2; exact Or.inr ⟨(c1.resolve_left q).2, c2⟩
    by_cases q60 : T.1 (a_p a1) = 60
    · rw [if_pos q60]
      have t36 : t = 36 := c1.resolve_right (fun z => z.1 q60)
      have u36 : u = 36 := by rw [if_pos t36] at c2; exact c2
      subst t36 u36
      exact ⟨x1.trans (x2.trans (XG_E (by decide) (by decide) (by decide) ⟨a_t a, t2, rfl⟩ hl)), by show [(36 : Int32)] ++ (a_t a3).drop 2 = _; rw [t2]; rfl, by rw [zL_E]; omega, o2.trans o1, w2⟩
    · rw [if_neg q60]
      by_cases q1 : T.1 (a_p a1) = 1
      · rw [if_pos q1]
        exact ⟨x1.trans (x2.trans (XG_E (by decide) (by decide) (by decide) ⟨u, t, a_t a, t2, hc, rfl⟩ hl)), by show [(36 : Int32)] ++ (a_t a3).drop 2 = _; rw [t2]; rfl, by rw [zL_E]; omega, o2.trans o1, w2⟩
      · rw [if_neg q1]
        exact ⟨x1.trans (x2.trans (XG_E (by decide) (by decide) (by decide) ⟨u, t, a_t a, t2, hc, rfl⟩ hl)), by show [(36 : Int32)] ++ (a_t a3).drop 2 = _; rw [t2]; rfl, by rw [zL_E]; omega, o2.trans o1, w2⟩
  · cases h2; exact hu
theorem G_X (hT : TK T N) : ∀ n, SubG (zX_ T n)
  | 0 => fun a y b _ _ _ h => by cases h
  | n + 1 => G_Ex hT (G_X hT n)
end
