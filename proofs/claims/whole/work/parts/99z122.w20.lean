section
/-! THE CLASS's FIRST HEAD: names may be left over from the text before -/
variable {X : Nat × (Nat → Int32)} {d : Nat} {s σ : sm_S} {ci N : Nat} {O : Nat → Nat → Nat → Int32} {T : zT} {a b : zA} {t : Int32}
def PN0 (_kn : List (List Int32 × Int32 × Nat)) (_m : Nat) (_x : Option (List Int32 × Int32)) (_σ : sm_S) : Prop := True
theorem PN0_o {kn : List (List Int32 × Int32 × Nat)} {m : Nat} {y : Option (List Int32 × Int32)} {t i k : Nat} {x : Int32} (_q : PN0 kn m y σ) (_h1 : t ≠ 14) (_h2 : t ≠ 48) (_h3 : t ≠ 49) : PN0 kn m y (sI σ t i k x) := trivial
theorem PN0_L {kn : List (List Int32 × Int32 × Nat)} {m : Nat} {y : Option (List Int32 × Int32)} {t i k : Nat} {x : Int64} (_q : PN0 kn m y σ) (_h1 : t ≠ 47) : PN0 kn m y (sL σ t i k x) := trivial
def PR0 (ci : Nat) (O : Nat → Nat → Nat → Int32) (a : zA) (σ : sm_S) : Prop := CV (zIW a) (a_c a) (a_h a) ci σ ∧ PQ (zIW a) (a_q a) ci σ ∧ PN0 (a_k a) (a_m a) (a_x a) σ ∧ CI ci O σ ∧ (a_q a ≠ [] → σ.1 15 0 4 = Int32.ofNat (4 + (a_q a).length))
def PC0 (ci : Nat) (O : Nat → Nat → Nat → Int32) (T : zT) (N : Nat) (a : zA) (σ : sm_S) : Prop := PT T N (a_p a) σ ∧ PR0 ci O a σ
theorem PR_150 {k : Nat} {x : Int32} (q : PR0 ci O a σ) (hk : k ≠ 4) : PR0 ci O a (sI σ 15 0 k x) := by
  obtain ⟨a1, a2, a3, a4, a5⟩ := q
  exact ⟨CV_o a1 (by omega) (by omega) (by omega) (by omega) (by omega) (by omega), PQ_o a2 (by omega) (by omega) (by omega) (by omega) (by omega), PN0_o a3 (by omega) (by omega) (by omega), CI_o a4 (by omega) (by omega) (by omega) (by omega) (by omega), fun h => by rw [gI, if_neg (by omega)]; exact a5 h⟩
theorem PR_L0 {k : Nat} {x : Int64} (q : PR0 ci O a σ) : PR0 ci O a (sL σ 15 0 k x) := by
  obtain ⟨a1, a2, a3, a4, a5⟩ := q
  exact ⟨a1, PQ_L a2 (by omega), PN0_L a3 (by omega), a4, a5⟩
def SCV0 (ci : Nat) (O : Nat → Nat → Nat → Int32) (T : zT) (N : Nat) (r : sm_R) (z : zR) : Prop := match z with
  | .inl e => FV e.1 (T.2.2.2 e.2) ci O r
  | .inr x => ∃ σ', r = rV σ' ∧ PC0 ci O T N x.2 σ'
theorem cbV0 {G : sm_R → zR → Prop} {r : sm_R} {z : zR} {k : sm_S → sm_R} {k' : Int32 → zA → zR} (h : SCV0 ci O T N r z) (hok : ∀ y a σ, z = .inr (y, a) → PC0 ci O T N a σ → G (k σ) (k' y a)) (hf : ∀ e σ, FS e.1 (T.2.2.2 e.2) ci O σ → G (k σ) (.inl e)) : G (sm_bV r sm_tw k) (pb z k') := by
  rcases z with e | ⟨y, a⟩
  · obtain ⟨σ', rfl, F⟩ := h; exact hf e σ' F
  · obtain ⟨σ', rfl, P⟩ := h; exact hok y a σ' rfl P
theorem c_refuse0 {f pl : Int32} (h : PC0 ci O T N a σ) (hf : f ≠ 0) : FV f pl ci O (sm_callM X true (d + 1) 83 [vP (15, 0), vI f, vI pl] σ) := by
  obtain ⟨⟨-, -, -, -, -, -, -, -, -, h0⟩, -, h5, -, hc, -⟩ := h
  rw [f_X5_refuse, q_X5_refuse_0, if_pos h0.1]
  refine ⟨_, rfl, ?_, hf, ?_, ?_, ?_, ?_, F5_K (F5_K (F5_K (F5_K h5.2.2.1 F5_15) F5_15) F5_15) F5_15⟩
  · exact CI_o (CI_o (CI_o (CI_o hc (by omega) (by omega) (by omega) (by omega) (by omega)) (by omega) (by omega) (by omega) (by omega) (by omega)) (by omega) (by omega) (by omega) (by omega) (by omega)) (by omega) (by omega) (by omega) (by omega) (by omega)
  · rw [gI, if_neg (by omega), gI, if_neg (by omega), gI, if_neg (by omega), gI, if_pos ⟨rfl, rfl, rfl⟩]
  · rw [gI, if_neg (by omega), gI, if_neg (by omega), gI, if_pos ⟨rfl, rfl, rfl⟩]
  · rw [gI, if_neg (by omega), gI, if_pos ⟨rfl, rfl, rfl⟩]
  · rw [gI, if_pos ⟨rfl, rfl, rfl⟩]
theorem c_pass0 (hT : TK T N) (h : PC0 ci O T N a σ) (hk : T.1 (a_p a) ≠ 6) (hk7 : T.1 (a_p a) ≠ 7) : SCV0 ci O T N (sm_callM X true (d + 1) 84 [vP (15, 0)] σ) (zN a) := by
  obtain ⟨hp, hr⟩ := h
  obtain ⟨a1, a2, a3, a4, a5, a6, a7, a8, a9, a10⟩ := hp
  rw [f_X5_pass, q_X5_pass_0, if_pos a10.1, a5, i_s]
  unfold zN
  by_cases q : a_p a = 800
  · rw [if_pos q, if_pos (by rw [q, show (800 : Int32) = Int32.ofNat 800 from rfl, i_lt (by omega) (by omega)]; omega), q_X5_pass_34]
    have e1 : (sI (sI σ 15 0 11 5) 15 0 12 ((sI σ 15 0 11 5).1 15 0 7)).1 15 0 11 = 5 := by rw [gI, if_neg (by omega), gI, if_pos ⟨rfl, rfl, rfl⟩]
    rw [e1, if_neg (by decide), q_X5_pass_61, if_pos rfl, q_X5_pass_80, rq_t, if_pos rfl, q_X5_pass_116, rq_t, if_pos rfl]
    refine ⟨_, rfl, ?_, by decide, ?_, ?_, ?_, ?_, F5_K (F5_K (F5_K (F5_K hr.2.1.2.2.1 F5_15) F5_15) F5_15) F5_15⟩
    · exact CI_o (CI_o (CI_o (CI_o hr.2.2.2.1 (by omega) (by omega) (by omega) (by omega) (by omega)) (by omega) (by omega) (by omega) (by omega) (by omega)) (by omega) (by omega) (by omega) (by omega) (by omega)) (by omega) (by omega) (by omega) (by omega) (by omega)
    · rw [gI, if_neg (by omega), gI, if_neg (by omega)]; exact e1
    · rw [gI, if_neg (by omega), gI, if_neg (by omega), gI, if_pos ⟨rfl, rfl, rfl⟩, gI, if_neg (by omega), a7, q]
    · rw [gI, if_neg (by omega), gI, if_pos ⟨rfl, rfl, rfl⟩]
    · rw [gI, if_pos ⟨rfl, rfl, rfl⟩]
  · obtain ⟨t1, t2, t3, -⟩ := hT
    have hN : a_p a < N := by
      rcases Nat.lt_or_ge (a_p a) N with z | z
      · exact z
      · exfalso
        have : a_p a = N := by omega
        rw [this] at hk hk7 q
        rcases t3 with w | w | w
        · exact hk w
        · exact hk7 w
        · omega
    rw [if_neg q, if_neg (by rw [show (800 : Int32) = Int32.ofNat 800 from rfl, i_lt (by omega) (by omega)]; omega), q_X5_pass_34, if_pos a10.1, if_neg (i_nn (by omega)), a4, if_pos (by rw [i_lt (by omega) (by omega)]; omega), q_X5_pass_61, if_neg (by decide), ix_nat (by omega) (by decide), (a3 _ (by omega)).1, q_X5_pass_80, rq_t, if_neg (by decide)]
    have e0 : (sI σ 15 0 6 (T.1 (a_p a + 1))).1 17 0 7 = Int32.ofNat (N + 1) := by rw [gI, if_neg (by omega)]; exact a4
    rw [e0, i_s]
    have key : ∀ v : Int32, v = (if a_p a + 1 < N then T.1 (a_p a + 1 + 1) else 0) → SCV0 ci O T N (sm_go (sm_ZZ X) sm_PP true (sm_callM X true d) 84 116 [vP (15, 0), vI (Int32.ofNat (a_p a + 1)), vI 1] [vI v, vP (15, 0)] (sI σ 15 0 6 (T.1 (a_p a + 1)))) (.inr (0, aP a (a_p a + 1))) := by
      intro v hv
      rw [q_X5_pass_116, rq_t, if_neg (by decide), ix_nat (by omega) (by decide), ix_nat (by omega) (by decide)]
      refine ⟨_, rfl, ⟨by show a_p a + 1 ≤ 800; omega, hN, ?_, ?_, ?_, ?_, ?_, ?_, ?_, ?_⟩, ?_⟩
      · intro j hj
        obtain ⟨b1, b2, b3⟩ := a3 j hj
        refine ⟨?_, ?_, fun h7 => ?_⟩
        · rw [gLI, gI, if_neg (by omega), gI, if_neg (by omega), gI, if_neg (by omega), gI, if_neg (by omega)]; exact b1
        · rw [gLI, gI, if_neg (by omega), gI, if_neg (by omega), gI, if_neg (by omega), gI, if_neg (by omega)]; exact b2
        · rw [gL, if_neg (by omega)]; exact b3 h7
      · rw [gLI, gI, if_neg (by omega), gI, if_neg (by omega), gI, if_neg (by omega), gI, if_neg (by omega)]; exact a4
      · rw [gLI, gI, if_neg (by omega), gI, if_pos ⟨rfl, rfl, rfl⟩]; rfl
      · rw [gLI, gI, if_neg (by omega), gI, if_neg (by omega), gI, if_neg (by omega), gI, if_pos ⟨rfl, rfl, rfl⟩]; rfl
      · rw [gLI, gI, if_pos ⟨rfl, rfl, rfl⟩, gI, if_neg (by omega), gI, if_neg (by omega), gI, if_neg (by omega)]; exact (a3 _ (by omega)).2.1
      · intro h7
        rw [gL, if_pos ⟨rfl, rfl, rfl⟩]; exact (a3 _ (by omega)).2.2 h7
      · rw [gLI, gI, if_neg (by omega), gI, if_neg (by omega), gI, if_pos ⟨rfl, rfl, rfl⟩]; exact hv
      · exact ⟨by rw [gLI, gI, if_neg (by omega), gI, if_neg (by omega), gI, if_neg (by omega), gI, if_neg (by omega)]; exact a10.1, by rw [gLI, gI, if_neg (by omega), gI, if_neg (by omega), gI, if_neg (by omega), gI, if_neg (by omega)]; exact a10.2⟩
      · exact PR_L0 (PR_150 (PR_150 (PR_150 (PR_150 hr (by omega)) (by omega)) (by omega)) (by omega))
    by_cases q2 : a_p a + 1 < N
    · rw [if_pos (by rw [i_lt (by omega) (by omega)]; omega), ix_nat (by omega) (by decide)]
      exact key _ (by rw [if_pos q2, gI, if_neg (by omega)]; exact (a3 _ (by omega)).1)
    · rw [if_neg (by rw [i_lt (by omega) (by omega)]; omega)]
      exact key _ (by rw [if_neg q2])
theorem c_expect0 {x : Int32} (hT : TK T N) (h : PC0 ci O T N a σ) (hx : x ≠ 6) (hx7 : x ≠ 7) : SCV0 ci O T N (sm_callM X true (d + 2) 86 [vP (15, 0), vI x] σ) (zMust T x a) := by
  have a6 := h.1.2.2.2.2.2.1
  have a7 := h.1.2.2.2.2.2.2.1
  rw [f_X5_expect, q_X5_expect_0, a6]
  unfold zMust
  by_cases q : T.1 (a_p a) = x
  · rw [if_pos q, if_pos q]
    have hp := c_pass0 (X := X) (d := d) hT h (by rw [q]; exact hx) (by rw [q]; exact hx7)
    revert hp
    cases zN a with
    | inl e => rintro ⟨σ', e1, F⟩; rw [e1]; exact ⟨σ', rfl, F⟩
    | inr x => rintro ⟨σ', e1, P⟩; rw [e1]; exact ⟨σ', rfl, P⟩
  · rw [if_neg q, if_neg q, a7]
    exact bindV (c_refuse0 h (by decide)) (fun σ' F => bindV (fs_84 F) (fun σ' F => fv_ret F))
theorem PC_k0 (h : PC0 ci O T N a σ) : σ.1 15 0 6 = T.1 (a_p a) := h.1.2.2.2.2.2.1
theorem PC_pl0 (h : PC0 ci O T N a σ) : σ.1 15 0 7 = T.2.2.2 (a_p a) := h.1.2.2.2.2.2.2.1
theorem PC_cd0 (h : PC0 ci O T N a σ) : σ.2.2.1 15 0 3 = (10, ci) := CI_code h.2.2.2.2.1
theorem PC_nm0 (h : PC0 ci O T N a σ) (q : T.1 (a_p a) = 3) : σ.2.1 15 0 8 = pk7 (T.2.1 (a_p a)) 0 := by
  rw [h.1.2.2.2.2.2.2.2.1 (by rw [q]; decide)]
  unfold cvl; rw [if_pos (Or.inl q)]
theorem SCV_f0 {r : sm_R} {e : Int32 × Nat} (h : FV e.1 (T.2.2.2 e.2) ci O r) : SCV0 ci O T N r (.inl e) := h
theorem cbVV0 {r : sm_R} {z : zR} {k : sm_S → sm_R} {k' : Int32 → zA → zR} (h : SCV0 ci O T N r z) (hok : ∀ y a σ, z = .inr (y, a) → PC0 ci O T N a σ → SCV0 ci O T N (k σ) (k' y a)) (hf : ∀ (e : Int32 × Nat) σ, FS e.1 (T.2.2.2 e.2) ci O σ → FV e.1 (T.2.2.2 e.2) ci O (k σ)) : SCV0 ci O T N (sm_bV r sm_tw k) (pb z k') := cbV0 (G := SCV0 ci O T N) h hok hf
theorem PC_len0 (h : PC0 ci O T N a σ) : a_p a ≤ 800 := h.1.1
theorem c_own0 (h : PC0 ci O T N a σ) : sm_callM X true (d + 1) 2 [vP (10, ci)] σ = rI (Int32.ofNat (a_q a).length) σ := by
  rw [f_X0_ownProcs, q_X0_ownProcs_0, h.2.2.1.1, show (5 : Int32) = Int32.ofNat 5 from rfl, i_sub]
theorem c_findProc_110 {n : List Int32} (hn : nmOk n) (h : PC0 ci O T N a σ) : ∀ (m k : Nat) (d2 : sm_V), k + m = (a_q a).length → sm_go (sm_ZZ X) sm_PP true (sm_callM X true (d + 5)) 90 11 [vP (15, 0), vL (pk7 n 0), d2, vI (Int32.ofNat (a_q a).length), vI (Int32.ofNat k)] [] σ = rI (match qFind n ((a_q a).drop k) k with | some i => Int32.ofNat (5 + i) | none => whr n sm_fives 0) σ
  | 0, k, d2, hk => by
    have h12 := h.2.2.1.2.1
    rw [q_X5_findProc_11, if_neg (by rw [i_lt (by omega) (by omega)]; omega), c_fives hn, bI_r, List.drop_eq_nil_of_le (by omega)]; rfl
  | m + 1, k, d2, hk => by
    have h12 := h.2.2.1.2.1
    have hkl : k < (a_q a).length := by omega
    obtain ⟨b1, b2, -⟩ := h.2.2.1.2.2.2 k _ (List.getElem?_eq_getElem hkl)
    rw [q_X5_findProc_11, if_pos (by rw [i_lt (by omega) (by omega)]; omega), if_pos (by rw [show (12 : Int32) = Int32.ofNat 12 from rfl, i_lt (by omega) (by omega)]; omega), ix_nat (by omega) (by decide), b1, List.drop_eq_getElem_cons hkl, qFind]
    by_cases q : ((a_q a)[k]).1 = n
    · rw [if_pos ((lgc _ _).mpr ((pk7_inj b2 hn).mpr q)), if_pos q, show (5 : Int32) = Int32.ofNat 5 from rfl, i_add]
    · rw [if_neg (fun z => q ((pk7_inj b2 hn).mp ((lgc _ _).mp z))), i_s, if_neg q]
      exact c_findProc_110 hn h m (k + 1) _ (by omega)
theorem c_findProc0 {n : List Int32} (hn : nmOk n) (h : PC0 ci O T N a σ) : sm_callM X true (d + 6) 90 [vP (15, 0), vL (pk7 n 0)] σ = rI (cFnd n (a_q a)) σ := by
  rw [f_X5_findProc, q_X5_findProc_0, if_cd h.2.2.2.2.1, CI_code h.2.2.2.2.1, c_own0 (d := d + 4) h, bI_r]
  exact c_findProc_110 hn h (a_q a).length 0 _ (Nat.zero_add _)
theorem c_addProc0 {n : List Int32} (h : PC0 ci O T N a σ) (hn : nmOk n) (hq : (a_q a).length < 12) (hw : wN a = 0) : ∃ σ', sm_callM X true (d + 1) 5 [vP (10, ci)] (sL σ 50 0 (a_q a).length (pk7 n 0)) = rI (Int32.ofNat (5 + (a_q a).length)) σ' ∧ PC0 ci O T N (aQ a (a_q a ++ [(n, 38, [], zL a)])) (sI σ' 15 0 4 (Int32.ofNat (5 + (a_q a).length))) := by
  obtain ⟨hp, h1, h2, h3, h4, h5⟩ := h
  rw [zIW_0 hw] at h1 h2
  obtain ⟨p1, p2, p3, p4⟩ := h2
  have hs : (sL σ 50 0 (a_q a).length (pk7 n 0)).1 = σ.1 := rfl
  have e1 : sm_callM X true (d + 1) 5 [vP (10, ci)] (sL σ 50 0 (a_q a).length (pk7 n 0)) = rI (Int32.ofNat (5 + (a_q a).length)) (sI (sI (sI (sI (sL σ 50 0 (a_q a).length (pk7 n 0)) 35 ci (5 + (a_q a).length) (Int32.ofNat (pos vC (a_i a) (a_i a).length))) 36 ci (5 + (a_q a).length) 0) 38 ci (5 + (a_q a).length) 38) 10 ci 9 (Int32.ofNat (5 + (a_q a).length + 1))) := by
    have g0 : (sL σ 50 0 (a_q a).length (pk7 n 0)).1 10 ci 9 = Int32.ofNat (5 + (a_q a).length) := p1
    have g0' : (sL σ 50 0 (a_q a).length (pk7 n 0)).1 10 ci 11 = Int32.ofNat (pos vC (a_i a) (a_i a).length) := h1.1
    have g1 : ∀ v, (sI (sL σ 50 0 (a_q a).length (pk7 n 0)) 35 ci (5 + (a_q a).length) v).1 10 ci 9 = Int32.ofNat (5 + (a_q a).length) := fun v => by rw [gI, if_neg (by omega)]; exact g0
    have g2 : ∀ v w, (sI (sI (sL σ 50 0 (a_q a).length (pk7 n 0)) 35 ci (5 + (a_q a).length) v) 36 ci (5 + (a_q a).length) w).1 10 ci 9 = Int32.ofNat (5 + (a_q a).length) := fun v w => by rw [gI, if_neg (by omega)]; exact g1 v
    have g3 : ∀ v w x, (sI (sI (sI (sL σ 50 0 (a_q a).length (pk7 n 0)) 35 ci (5 + (a_q a).length) v) 36 ci (5 + (a_q a).length) w) 38 ci (5 + (a_q a).length) x).1 10 ci 9 = Int32.ofNat (5 + (a_q a).length) := fun v w x => by rw [gI, if_neg (by omega)]; exact g2 v w
    rw [f_X0_addProc, q_X0_addProc_0, g0, if_pos (by rw [show (17 : Int32) = Int32.ofNat 17 from rfl, i_lt (by omega) (by omega)]; omega), ix_nat (by omega) (by decide), g1, ix_nat (by omega) (by decide), g2, ix_nat (by omega) (by decide), g3, i_s, gI, if_pos ⟨rfl, rfl, rfl⟩, i_pred, g0']
  obtain ⟨y, σ', e2, c2, -⟩ := ci_addProc (X := X) (d := d) (σ := sL σ 50 0 (a_q a).length (pk7 n 0)) (CI_L h4)
  rw [e1] at e2
  rw [← (rI_inj e2).2] at c2
  refine ⟨_, e1, ?_, ?_⟩
  · exact PT_o (PT_o (PT_o (PT_o (PT_o (PT_L hp (by omega) (by omega)) (by omega) (by omega) (by omega) (by omega)) (by omega) (by omega) (by omega) (by omega)) (by omega) (by omega) (by omega) (by omega)) (by omega) (by omega) (by omega) (by omega)) (by omega) (by omega) (by omega) (by omega)
  · have hw' : wN (aQ a (a_q a ++ [(n, 38, [], zL a)])) = 0 := hw
    unfold PR0
    rw [zIW_0 hw']
    have hl : (a_q a ++ [(n, 38, [], zL a)]).length = (a_q a).length + 1 := by rw [List.length_append]; rfl
    refine ⟨?_, ⟨?_, by show (a_q a ++ [(n, 38, [], zL a)]).length ≤ 12; rw [hl]; omega, fun i hi => ?_, fun i q hi => ?_⟩, ?_, CI_o c2 (by omega) (by omega) (by omega) (by omega) (by omega), fun _ => ?_⟩
    · exact CV_o (CV_10 (CV_o (CV_o (CV_o (CV_L h1) (by omega) (by omega) (by omega) (by omega) (by omega) (by omega)) (by omega) (by omega) (by omega) (by omega) (by omega) (by omega)) (by omega) (by omega) (by omega) (by omega) (by omega) (by omega)) (by omega) (by omega) (by omega)) (by omega) (by omega) (by omega) (by omega) (by omega) (by omega)
    · show _ = Int32.ofNat (5 + (a_q a ++ [(n, 38, [], zL a)]).length)
      rw [gI, if_neg (by omega), gI, if_pos ⟨rfl, rfl, rfl⟩, hl]; rfl
    · obtain ⟨b1, b2, b3⟩ := p3 i hi
      refine ⟨?_, ?_, fun j t hj => ?_⟩
      · rw [gI, if_neg (by omega), gI, if_neg (by omega), gI, if_neg (by omega), gI, if_neg (by omega), gI, if_neg (by omega)]; exact b1
      · rw [gI, if_neg (by omega), gI, if_neg (by omega), gI, if_neg (by omega), gI, if_neg (by omega), gI, if_neg (by omega)]; exact b2
      · rw [gI, if_neg (by omega), gI, if_neg (by omega), gI, if_neg (by omega), gI, if_neg (by omega), gI, if_neg (by omega)]; exact b3 j t hj
    · have hi : (a_q a ++ [(n, 38, [], zL a)])[i]? = some q := hi
      rcases Nat.lt_or_ge i (a_q a).length with z | z
      · rw [List.getElem?_append_left z] at hi
        obtain ⟨b1, b2, b3, b4, b5, b6, b7, b8⟩ := p4 i q hi
        refine ⟨?_, b2, b3, ?_, b5, ?_, ?_, fun j t hj => ?_⟩
        · show (sL σ 50 0 (a_q a).length (pk7 n 0)).2.1 50 0 i = _
          rw [gL, if_neg (by omega)]; exact b1
        · rw [gI, if_neg (by omega), gI, if_neg (by omega), gI, if_neg (by omega), gI, if_neg (by omega), gI, if_neg (by omega)]; exact b4
        · rw [gI, if_neg (by omega), gI, if_neg (by omega), gI, if_neg (by omega), gI, if_neg (by omega), gI, if_neg (by omega)]; exact b6
        · rw [gI, if_neg (by omega), gI, if_neg (by omega), gI, if_neg (by omega), gI, if_neg (by omega), gI, if_neg (by omega)]; exact b7
        · rw [gI, if_neg (by omega), gI, if_neg (by omega), gI, if_neg (by omega), gI, if_neg (by omega), gI, if_neg (by omega)]; exact b8 j t hj
      · have hz := (List.getElem?_eq_some_iff.mp hi).1
        rw [hl] at hz
        have hj2 : i = (a_q a).length := by omega
        subst hj2
        have he : q = (n, 38, [], zL a) := by simp at hi; exact hi.symm
        subst he
        refine ⟨?_, hn, Nat.le_refl _, ?_, Nat.zero_le _, ?_, ?_, fun j t hj => by cases hj⟩
        · show (sL σ 50 0 (a_q a).length (pk7 n 0)).2.1 50 0 (a_q a).length = _
          rw [gL, if_pos ⟨rfl, rfl, rfl⟩]
        · rw [gI, if_neg (by omega), gI, if_neg (by omega), gI, if_neg (by omega), gI, if_neg (by omega), gI, if_pos ⟨rfl, rfl, rfl⟩]; rfl
        · rw [gI, if_neg (by omega), gI, if_neg (by omega), gI, if_neg (by omega), gI, if_pos ⟨rfl, rfl, rfl⟩]; rfl
        · rw [gI, if_neg (by omega), gI, if_neg (by omega), gI, if_pos ⟨rfl, rfl, rfl⟩]
    · exact PN0_o (PN0_o (PN0_o (PN0_o (PN0_o (PN0_L h3 (by omega)) (by omega) (by omega) (by omega)) (by omega) (by omega) (by omega)) (by omega) (by omega) (by omega)) (by omega) (by omega) (by omega)) (by omega) (by omega) (by omega)
    · rw [gI, if_pos ⟨rfl, rfl, rfl⟩]
      show _ = Int32.ofNat (4 + (a_q a ++ [(n, 38, [], zL a)]).length)
      rw [hl, show 5 + (a_q a).length = 4 + ((a_q a).length + 1) by omega]
theorem c_readPNm0 (hT : TK T N) (h : PC0 ci O T N a σ) (hw : wN a = 0) : SCV0 ci O T N (sm_callM X true (d + 8) 89 [vP (15, 0)] σ) (zPNm T a) := by
  have h12 := h.2.2.1.2.1
  rw [f_X5_readProcName, q_X5_readProcName_0, if_cd h.2.2.2.2.1, PC_cd0 h, c_own0 (d := d + 6) h, bI_r, PC_k0 h]
  unfold zPNm
  by_cases k : T.1 (a_p a) = 3
  · have hn := hT.2.2.2.1 _ k
    rw [if_pos k, if_pos k, PC_nm0 h k, c_findProc0 (d := d + 1) hn h, bI_r]
    rcases pFind_c (n := T.2.1 (a_p a)) h12 with ⟨f1, f2⟩ | ⟨f1, f2, -⟩
    · rw [f2, if_pos rfl, if_pos f1, if_neg (i_nn (by omega))]
      by_cases q : (a_q a).length = 12
      · rw [if_neg (by rw [show (12 : Int32) = Int32.ofNat 12 from rfl, i_lt (by omega) (by omega)]; omega), if_pos q, PC_pl0 h]
        exact SCV_f0 (bindV (c_refuse0 h (by decide)) (fun σ F => fv_ret F))
      · rw [if_pos (by rw [show (12 : Int32) = Int32.ofNat 12 from rfl, i_lt (by omega) (by omega)]; omega), if_neg q, ix_nat (by omega) (by decide), PC_nm0 h k]
        obtain ⟨σ2, e2, h2⟩ := c_addProc0 (X := X) (d := d + 6) h hn (by omega) hw
        have cd : (sL σ 50 0 (a_q a).length (pk7 (T.2.1 (a_p a)) 0)).2.2.1 15 0 3 = (10, ci) := by
          show σ.2.2.1 15 0 3 = (10, ci)
          exact PC_cd0 h
        rw [cd, if_pos rfl]
        have e2 : sm_callM X true (d + 7) 5 [vP (10, ci)] (sL σ 50 0 (a_q a).length (pk7 (T.2.1 (a_p a)) 0)) = _ := e2
        rw [e2, bI_r]
        refine cbVV0 (c_pass0 (d := d + 6) (a := aQ a (a_q a ++ [(T.2.1 (a_p a), 38, [], zL a)])) hT h2 (by show T.1 (a_p a) ≠ 6; rw [k]; decide) (by show T.1 (a_p a) ≠ 7; rw [k]; decide)) (fun _ a2 σ3 e3 h3 => ⟨_, rfl, h3⟩) (fun e σ F => fv_ret F)
    · rw [if_neg f2, if_neg f1, PC_pl0 h]
      exact SCV_f0 (bindV (c_refuse0 h (by decide)) (fun σ F => fv_ret F))
  · rw [if_neg k, if_neg k, PC_pl0 h]
    exact SCV_f0 (bindV (c_refuse0 h (by decide)) (fun σ F => fv_ret F))
theorem cb0V {r : sm_R} {z : zR} {k : sm_S → sm_R} {k' : Int32 → zA → zR} (h : SCV0 ci O T N r z) (hok : ∀ y a σ, z = .inr (y, a) → PC0 ci O T N a σ → SCV ci O T N (k σ) (k' y a)) (hf : ∀ (e : Int32 × Nat) σ, FS e.1 (T.2.2.2 e.2) ci O σ → FV e.1 (T.2.2.2 e.2) ci O (k σ)) : SCV ci O T N (sm_bV r sm_tw k) (pb z k') := by
  rcases z with e | ⟨y, a⟩
  · obtain ⟨σ', rfl, F⟩ := h; exact hf e σ' F
  · obtain ⟨σ', rfl, P⟩ := h; exact hok y a σ' rfl P
theorem PC_pn0 {kn : List (List Int32 × Int32 × Nat)} {m : Nat} {x : Option (List Int32 × Int32)} {σ' : sm_S} (h : PC0 ci O T N a σ) (hp : PT T N (a_p a) σ') (hcv : CV (zIW a) (a_c a) (a_h a) ci σ') (hq : PQ (zIW a) (a_q a) ci σ') (hci : CI ci O σ') (h5 : σ'.1 15 0 4 = σ.1 15 0 4) (hn : PN kn m x σ') (hb : b = aX (aM (aK a kn) m) x) (hw : wN a = 0) : PC ci O T N b σ' := by
  subst hb
  refine ⟨hp, ?_⟩
  unfold PR
  have hw' : wN (aX (aM (aK a kn) m) x) = 0 := hw
  rw [zIW_0 hw] at hcv hq
  rw [zIW_0 hw']
  exact ⟨hcv, hq, hn, hci, fun z => by rw [h5]; exact h.2.2.2.2.2 z⟩
theorem c_nclear0 (h : PC0 ci O T N a σ) (hx : a_x a = none) (hw : wN a = 0) : ∃ σ', sm_callM X true (d + 1) 73 [vP (14, 0)] σ = rV σ' ∧ PC ci O T N (aM (aK a []) 0) σ' := by
  have e1 : sm_callM X true (d + 1) 73 [vP (14, 0)] σ = rV (sI (sI σ 14 0 3 0) 14 0 4 0) := by rw [f_X4_clear, q_X4_clear_0]
  refine ⟨_, e1, ?_⟩
  obtain ⟨σ', e2, c2, -⟩ := ci_nclear (X := X) (d := d) h.2.2.2.2.1
  rw [e1] at e2
  rw [← rV_inj e2] at c2
  refine PC_pn0 h (PT_o (PT_o h.1 (by omega) (by omega) (by omega) (by omega)) (by omega) (by omega) (by omega) (by omega)) (CV_o (CV_o h.2.1 (by omega) (by omega) (by omega) (by omega) (by omega) (by omega)) (by omega) (by omega) (by omega) (by omega) (by omega) (by omega)) (PQ_o (PQ_o h.2.2.1 (by omega) (by omega) (by omega) (by omega) (by omega)) (by omega) (by omega) (by omega) (by omega) (by omega)) c2 (by rw [gI, if_neg (by omega), gI, if_neg (by omega)]) (kn := []) (m := 0) (x := a_x a) ?_ rfl hw
  rw [hx]
  refine ⟨?_, ?_, Nat.zero_le _, Nat.le_refl _, fun j e hj => (by cases hj), fun n t hx => (by cases hx)⟩
  · rw [gI, if_neg (by omega), gI, if_pos ⟨rfl, rfl, rfl⟩]; rfl
  · rw [gI, if_pos ⟨rfl, rfl, rfl⟩]; rfl
theorem c_readHead0 (hT : TK T N) (h : PC0 ci O T N a σ) (hi : TI a) : SCV ci O T N (sm_callM X true (d + 9) 88 [vP (15, 0)] σ) (zHead T a) := by
  rw [f_X5_readHead, q_X5_readHead_0]
  unfold zHead
  refine cb0V (c_expect0 (d := d + 6) hT h (by decide) (by decide)) (fun _ a1 σ1 e1 h1 => ?_) (fun e σ F => ft_readHead_0_s2 F)
  obtain ⟨-, n1, e1⟩ := zMust_inr.mp e1
  have E1 : a1 = aP a (a_p a + 1) := congrArg Prod.snd e1
  have hi1 : TI a1 := by
    rw [E1]
    obtain ⟨g1, g2, g3, g4, g5, g6⟩ := hi
    exact ⟨g1, by show zL a ≤ a_p a + 1; omega, g3, g4, g5, by show 9 * (a_c a).length ≤ a_p a + 1; omega⟩
  have b1 : zL a1 + 1 ≤ a_p a1 ∧ 9 * (a_c a1).length + 1 ≤ a_p a1 := by
    rw [E1]
    exact ⟨by show zL a + 1 ≤ a_p a + 1; have := hi.2.1; omega, by show 9 * (a_c a).length + 1 ≤ a_p a + 1; have := hi.2.2.2.2.2; omega⟩
  refine cb0V (c_readPNm0 (d := d) hT h1 hi1.1.1) (fun _ a2 σ2 e2 h2 => ?_) (fun e σ F => ft_readHead_0_s4 F)
  obtain ⟨i2, l2, l2', w2, x2⟩ := PNm_H hi1 b1 (PC_len0 h1) e2
  obtain ⟨σ3, e3, h3⟩ := c_nclear0 (X := X) (d := d + 7) h2 x2 w2
  have e3 : sm_callM X true (d + 8) 73 [vP (14, 0)] σ2 = rV σ3 := e3
  rw [e3, bV_r]
  refine cbVV (c_expect (d := d + 6) (a := aR (aM (aK a2 []) 0) 0) hT h3 (by decide) (by decide)) (fun _ a3 σ4 e4 h4 => ?_) (fun e σ F => ft_readHead_0_s8 F)
  obtain ⟨-, n4, e4⟩ := zMust_inr.mp e4
  have E4 : a3 = aP (aR (aM (aK a2 []) 0) 0) (a_p a2 + 1) := congrArg Prod.snd e4
  have i3 : HI a3 := by rw [E4]; exact HI_P i2 (by show a_p a2 ≤ a_p a2 + 1; omega)
  rw [PC_k h4]
  by_cases k : T.1 (a_p a3) = 41
  · rw [if_pos k, if_pos k, pb_r]
    exact c_head69 hT h4 i3
  · rw [if_neg k, if_neg k, zPars, pb_pb]
    refine cbVV (c_readPar1 (d := d + 3) hT h4 i3) (fun _ a4 σ5 e5 h5 => ?_) (fun e σ F => ft_readHead_0_s10 F)
    obtain ⟨i4, l4, -⟩ := Par1_H hT i3 (PC_len h4) e5
    exact c_pars hT 800 0 a4 σ5 h5 i4 (Nat.zero_le _) (by omega)
theorem c_text0 (hT : TK T N) {f i : Nat} {v1 : sm_V} (h : PC0 ci O T N a σ) (hi : TI a) (hip : i ≤ a_p a) (hf : 801 ≤ f + 1 + a_p a) : SCV ci O T N (sm_go (sm_ZZ X) sm_PP true (sm_callM X true (d + 400)) 82 65 [vP (15, 0), v1, vI (Int32.ofNat i)] [] σ) (zText T (f + 1) a) := by
  have hp := PC_len0 h
  rw [q_X5_read_65, zText]
  unfold zProc
  rw [pb_pb]
  refine cbVV (c_readHead0 (d := d + 391) hT h hi) (fun _ a1 σ1 e1 h1 => ?_) (fun e σ F => ft_read_65_s2 F)
  obtain ⟨i1, l1, l1'⟩ := Head_H hT hi hp e1
  obtain ⟨g1, g2, g3, g4, g5, g6, g7, g8, g9, g10⟩ := i1
  rw [pb_pb]
  have hE : HS X (d + 187) ci O T N (zX_ T 11) 0 := c_X hT 11 0 (by omega) (by omega)
  have hE1 : HS X (d + 187) ci O T N (zX_ T 10) 1 := HS_le (n := 17) (c_X (d := d) hT 10 1 (by omega) (by omega))
  have hB := c_B hT hE hE1 9 0 (by omega) (by omega)
  have S1 : SH ci O T N (aB a1 (a_b a1 + 1)) σ1 := ⟨h1, g1, by show zL a1 ≤ a_p a1; omega, g5, g3⟩
  have hB1 := hB 6 (aB a1 (a_b a1 + 1)) σ1 S1 g10 (by show 9 * (a_c a1).length ≤ a_p a1 + 9 * (0 + 1); omega)
  have hB1 : SCV ci O T N (sm_callM X true (d + 400) 95 [vP (15, 0), vI 0] σ1) (zBlk T 9 (aB a1 (a_b a1 + 1))) := hB1
  refine cbVV hB1 (fun _ a2 σ2 e2 h2 => ?_) (fun e σ F => ft_read_65_s4 F)
  obtain ⟨d2, i2, k2⟩ := D_blk (PT_ty hT) 9 _ _ _ (show a_p (aB a1 (a_b a1 + 1)) ≤ 800 from l1') g1 e2
  have eP : zProc T a = .inr (0, zE a2 3 0 0 0 (-1)) := by unfold zProc; rw [e1, pb_r, e2, pb_r]
  obtain ⟨i3, l3, l3'⟩ := Proc_T hT hi hp eP
  have D1 : a_p a1 + 2 ≤ a_p a2 := d2.1
  have D3 : zL a2 + a_p a1 + 2 ≤ zL a1 + a_p a2 := d2.2.2.1
  rw [pb_r]
  refine emV (d := d + 399) (op := 3) (arg := 0) (ty := 0) (tgt := 0) h2 i2.1 (by have := PC_len h2; omega) rfl (by decide) (Nat.zero_le _) rfl (cArg_n (by decide)) (fun σ3 h3 => ?_)
  have l3 : a_p a < a_p a2 := l3
  have hpa : a_p (zE a2 3 0 0 0 (-1)) = a_p a2 := rfl
  rw [i_s, q_X5_read_38, if_neg (by rw [show (800 : Int32) = Int32.ofNat 800 from rfl, i_lt (by omega) (by omega)]; have := PC_len h2; omega), if_pos h3.1.2.2.2.2.2.2.2.2.2.1, if_neg (by rw [show (0 : Int32) = Int32.ofNat 0 from rfl, i_eq (by omega) (by omega)]; omega), PC_k h3]
  by_cases k : T.1 (a_p (zE a2 3 0 0 0 (-1))) = 6
  · rw [if_pos k, if_pos k]
    exact ⟨_, rfl, h3⟩
  · rw [if_neg k, if_neg k]
    exact c_text hT f (i + 1) _ σ3 _ h3 i3 (by rw [hpa]; omega) (by rw [hpa]; omega)
end
