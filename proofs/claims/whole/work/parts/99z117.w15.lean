section
/-! PROCS AND THE WHOLE TEXT IN THE REFERENCE -/
variable {X : Nat × (Nat → Int32)} {d : Nat} {s σ : sm_S} {mi N : Nat} {O : Nat → Nat → Nat → Int32} {T : zT} {a b : zA} {t : Int32}
def zBody (T : zT) (_y : Int32) (a8 : zA) : zR := pb (zBlk T 9 (aB a8 (a_b a8 + 1))) (fun _ a9 => .inr (0, zE a9 3 0 0 0 (-1)))
theorem zProc_e : zProc T a = pb (zHead T a) (zBody T) := rfl
theorem m_229 {n : Nat} (hT : TK T N) (h : PM mi O T N a σ) (hi : HI a) (hq : HQ n a) (y : Int32) : SMV mi O T N (sm_go (sm_ZZ X) sm_PP true (sm_callM X true (d + 405)) 211 229 [vP (23, 0)] [] σ) (zBody T y a) := by
  obtain ⟨g1, g2, g3, g4, g5, g6, g7, g8, g9, g10⟩ := hi
  have e12 := h.2.2.1.2.2.1 g3
  have hn : (a_q a).length - 1 = n := by rw [hq.2.1]; rfl
  rw [hn] at e12
  have n12 : n < 12 := by have := hq.2.1; omega
  rw [q_X13_proc_229, PM_cd h, rq_t, rq_t, e12, ix_nat n12 (by decide)]
  unfold zBody
  have hb := PM_beg h hq
  have hE : HM X (d + 198) mi O T N (zX_ T 11) 0 := m_X hT 11 0 (by omega) (by omega)
  have hE1 : HM X (d + 198) mi O T N (zX_ T 10) 1 := HM_le (n := 18) (m_X (d := d) hT 10 1 (by omega) (by omega))
  have hB := m_B hT hE hE1 9 0 (by omega) (by omega)
  have S1 : SM mi O T N (aB a (a_b a + 1)) (sI σ 62 mi n (σ.1 22 mi 6)) := ⟨hb, g1, by show zL a ≤ a_p a; omega, g5, g3⟩
  have hB1 := hB 0 (aB a (a_b a + 1)) _ S1 g10
  have hB1 : SMV mi O T N (sm_callM X true (d + 405) 217 [vP (23, 0)] (sI σ 62 mi n (σ.1 22 mi 6))) (zBlk T 9 (aB a (a_b a + 1))) := hB1
  refine mbVV hB1 (fun _ a2 σ2 e2 h2 => ?_)
  obtain ⟨d2, i2, k2⟩ := D_blk (PT_ty hT) 9 (aB a (a_b a + 1)) _ _ (show a_p a ≤ 800 from PM_len h) g1 e2
  have D3 : zL a2 + a_p a + 2 ≤ zL a + a_p a2 := d2.2.2.1
  have := PM_len h2
  exact meV (d := d + 404) (op := 3) (tk := 0) (arg := 0) (ty := 0) (pl := -1) (tgt := 0) h2 (by omega) rfl (Nat.zero_le _) rfl rfl rfl (Or.inl ⟨rfl, rfl⟩) (fun σ3 h3 => ⟨_, rfl, h3⟩)
theorem m_194 {n : Nat} (hT : TK T N) (h : PM mi O T N a σ) (hi : HI a) (hq : HQ n a) : SMV mi O T N (sm_go (sm_ZZ X) sm_PP true (sm_callM X true (d + 405)) 211 194 [vP (23, 0)] [] σ) (pb (zMust T 41 a) (fun _ a5 => pb (zGiv T a5) (zBody T))) := by
  rw [q_X13_proc_194]
  refine mbVV (m_must (d := d + 402) hT h (by decide)) (fun _ a5 σ5 e5 h5 => ?_)
  obtain ⟨k5, n5, e5⟩ := zMust_inr.mp e5
  have E5 : a5 = aP a (a_p a + 1) := congrArg Prod.snd e5
  have hi5 : HI a5 := by rw [E5]; exact HI_P hi (by omega)
  have hq5 : HQ n a5 := by rw [E5]; exact hq
  rw [m_is h5 (by decide), bI_r]
  have hG : ∀ (y : Int32) (b : zA), zGiv T a5 = .inr (y, b) → HI b ∧ HQ n b := fun y b e => ⟨(Giv_H hT hi5 (PM_len h5) e).1, HQ_giv hq5 (PM_len h5) e⟩
  revert hG
  unfold zGiv
  by_cases k58 : T.1 (a_p a5) = 58
  · rw [if_pos k58, if_pos k58, if_neg (by decide), pb_pb]
    intro hG
    refine mbVV (m_next (d := d + 403) hT h5 (by rw [k58]; decide) (by rw [k58]; decide)) (fun _ a6 σ6 e6 h6 => ?_)
    rw [e6] at hG
    obtain ⟨n6, e6⟩ := zN_inr.mp e6
    have E6 : a6 = aP a5 (a_p a5 + 1) := congrArg Prod.snd e6
    have hi6 : HI a6 := by rw [E6]; exact HI_P hi5 (by omega)
    have hq6 : HQ n a6 := by rw [E6]; exact hq5
    rw [PM_cd h6, rq_t, pb_pb]
    have e12 := h6.2.2.1.2.2.1 hi6.2.2.1
    have l12 : (a_q a6).length - 1 < 12 := by have := hi6.2.2.2.1; omega
    rw [e12]
    refine mbIV (m_type (d := d + 401) hT h6) (fun u a7 σ7 e7 h7 => ?_)
    simp only [pb_r] at hG
    rw [e7] at hG
    simp only [pb_r] at hG
    obtain ⟨hi8, hq8⟩ := hG 0 _ rfl
    obtain ⟨-, p7, E7⟩ := D_ty (PM_len h6) e7
    have q7 : a_q a7 = a_q a6 := by rw [E7]; rfl
    obtain ⟨e, he⟩ := last_some (q := a_q a7) (by rw [q7]; exact hi6.2.2.1)
    have hg := PM_giv (t := u) h7 he
    rw [q7] at hg
    rw [ix_nat l12 (by decide), pb_r]
    exact m_229 (d := d) hT hg hi8 hq8 0
  · rw [if_neg k58, if_neg k58, if_pos rfl]
    intro _
    rw [pb_r]
    exact m_229 (d := d) hT h5 hi5 hq5 0
theorem PM_m0 (h : PM mi O T N a σ) (hk : a_k a = []) : PM mi O T N (aM a 0) (sI σ 23 0 15 0) := by
  obtain ⟨h1, h2, h3, ⟨a1, a2, a3, a4, a5⟩, h5, h6, h7⟩ := h
  refine ⟨MT_o h1 (by omega), MV_o h2 (by omega), MQp_o h3 (by omega), ⟨by rw [gI, if_pos ⟨rfl, rfl, rfl⟩]; rfl, by rw [gI, if_neg (by omega)]; exact a2, Nat.zero_le _, by show (a_k a).length ≤ 0; rw [hk]; exact Nat.le_refl _, fun j e hj => ?_⟩, MX_o (a := a) h5 (by omega), h6, OM_I h7 (by omega)⟩
  exfalso
  have hj : (a_k a)[j]? = some e := hj
  rw [hk] at hj; cases hj
theorem m_proc (hT : TK T N) (h : PM mi O T N a σ) (hi : TI a) (hb : a_b a = (a_q a).length) : SMV mi O T N (sm_callM X true (d + 406) 211 [vP (23, 0)] σ) (zProc T a) := by
  rw [f_X13_proc, q_X13_proc_0, m_w (j := 0) (c := 200) (w := 0) h (by omega) (by decide) rfl, bI_r, zProc_e]
  unfold zHead
  rw [pb_pb, pb_must]
  refine mfV (d := d + 403) h bz (fun k0 => ?_)
  refine mnV (d := d + 403) hT h (by rw [k0]; decide) (by rw [k0]; decide) (fun σ1 n1 h1 => ?_)
  obtain ⟨i1, i2, i3, i4, i5, i6⟩ := hi
  have TI1 : TI (aP a (a_p a + 1)) := ⟨i1, by show zL a ≤ a_p a + 1; omega, i3, i4, i5, by show 9 * (a_c a).length ≤ a_p a + 1; omega⟩
  have hx : zL (aP a (a_p a + 1)) + 1 ≤ a_p (aP a (a_p a + 1)) ∧ 9 * (a_c (aP a (a_p a + 1))).length + 1 ≤ a_p (aP a (a_p a + 1)) := ⟨by show zL a + 1 ≤ a_p a + 1; omega, by show 9 * (a_c a).length + 1 ≤ a_p a + 1; omega⟩
  have hb1 : a_b (aP a (a_p a + 1)) = (a_q (aP a (a_p a + 1))).length := hb
  generalize aP a (a_p a + 1) = a1 at *
  have h12 := h1.2.2.1.2.1
  have hp1 := h1.1.2.1
  have hp18 := PM_len h1
  have hH : ∀ (y : Int32) (b : zA), zPNm T a1 = .inr (y, b) → HI (aR (aM (aK b []) 0) 0) := fun y b e => (PNm_H TI1 hx hp18 e).1
  revert hH
  unfold zPNm
  rw [PM_ix h1, PM_kd h1, pb_pb]
  intro hH
  have key : ∀ y : Int32, (y = 0 ↔ ¬ T.1 (a_p a1) = 3) → SMV mi O T N (sm_go (sm_ZZ X) sm_PP true (sm_callM X true (d + 405)) 211 32 [vP (23, 0)] [vI y, vP (23, 0)] σ1) (pb (if T.1 (a_p a1) = 3 then (if pFind (T.2.1 (a_p a1)) (a_q a1) = -1 then (if (a_q a1).length = 12 then .inl (5, a_p a1) else
      pb (zN (aQ a1 (a_q a1 ++ [(T.2.1 (a_p a1), 38, [], zL a1)]))) (fun _ a2 => .inr (0, a2))) else .inl (3, a_p a1)) else .inl (1, a_p a1)) (fun _ a2 => pb (pb (zMust T 40 (aR (aM (aK a2 []) 0) 0)) (fun _ a3 => pb (if T.1 (a_p a3) = 41 then .inr (0, a3) else zPars T 801 a3) (fun _ a4 => pb (zMust T 41 a4) (fun _ a5 => zGiv T a5)))) (zBody T))) := by
    intro y hy
    rw [q_X13_proc_32, if_pos rfl]
    have e0 : ∀ (r : zR) (k : Int32 → zA → zR), pb (if T.1 (a_p a1) = 3 then r else .inl (1, a_p a1)) k = if T.1 (a_p a1) = 3 then pb r k else .inl (1, a_p a1) := by
      intro r k
      by_cases z : T.1 (a_p a1) = 3
      · rw [if_pos z, if_pos z]
      · rw [if_neg z, if_neg z]; rfl
    rw [e0]
    refine mfV (d := d + 403) h1 hy (fun k3 => ?_)
    have hn := hT.2.2.2.1 _ k3
    rw [PM_ix h1, PM_nm h1 k3, m_procOf (d := d + 398) hn h1, bI_r]
    rw [if_pos k3] at hH
    by_cases f1 : pFind (T.2.1 (a_p a1)) (a_q a1) = -1
    · rw [if_pos f1, if_pos f1, PM_cd h1, rq_t, h1.2.2.1.1]
      rw [if_pos f1] at hH
      by_cases q12 : (a_q a1).length = 12
      · rw [if_pos (show Int32.ofNat (a_q a1).length = 12 by rw [q12]; rfl), if_pos q12, PM_at h1]
        exact mThV (d := d + 404) h1 hp1 (by omega)
      · rw [if_neg (fun z : Int32.ofNat (a_q a1).length = 12 => q12 ((i_eq (b := 12) (by omega) (by decide)).mp z)), if_neg q12]
        rw [if_neg q12] at hH
        have l12 : (a_q a1).length < 12 := by omega
        have hA := PM_addQ h1 hn l12 hb1
        rw [rq_t, h1.2.2.1.1]
        have c1 : (sI σ1 23 0 12 (Int32.ofNat (a_q a1).length)).2.2.1 23 0 7 = (22, mi) := (show σ1.2.2.1 23 0 7 = (22, mi) from PM_cd h1)
        have c2 : (sI σ1 23 0 12 (Int32.ofNat (a_q a1).length)).1 23 0 11 = Int32.ofNat (a_p a1) := (show σ1.1 23 0 11 = _ from PM_at h1)
        have c3 : (sI σ1 23 0 12 (Int32.ofNat (a_q a1).length)).1 23 0 12 = Int32.ofNat (a_q a1).length := by rw [gI, if_pos ⟨rfl, rfl, rfl⟩]
        have c4 : (sI σ1 23 0 12 (Int32.ofNat (a_q a1).length)).2.1 70 0 (a_p a1) = pk8 (T.2.1 (a_p a1)) 0 := (show σ1.2.1 70 0 (a_p a1) = _ from PM_nm h1 k3)
        rw [c1, rq_t, c2, ix_nat (by omega) (by decide), c3, ix_nat l12 (by decide), c4]
        have c5 : (sL (sI σ1 23 0 12 (Int32.ofNat (a_q a1).length)) 58 mi (a_q a1).length (pk8 (T.2.1 (a_p a1)) 0)).2.2.1 23 0 7 = (22, mi) := c1
        have c6 : (sL (sI σ1 23 0 12 (Int32.ofNat (a_q a1).length)) 58 mi (a_q a1).length (pk8 (T.2.1 (a_p a1)) 0)).1 23 0 12 = Int32.ofNat (a_q a1).length := c3
        rw [c5, rq_t, c6, ix_nat l12 (by decide)]
        have c7 : (sI (sL (sI σ1 23 0 12 (Int32.ofNat (a_q a1).length)) 58 mi (a_q a1).length (pk8 (T.2.1 (a_p a1)) 0)) 60 mi (a_q a1).length 0).2.2.1 23 0 7 = (22, mi) := c1
        have c8 : (sI (sL (sI σ1 23 0 12 (Int32.ofNat (a_q a1).length)) 58 mi (a_q a1).length (pk8 (T.2.1 (a_p a1)) 0)) 60 mi (a_q a1).length 0).1 23 0 12 = Int32.ofNat (a_q a1).length := by rw [gI, if_neg (by omega)]; exact c6
        rw [c7, rq_t, c8, ix_nat l12 (by decide)]
        have c9 : (sI (sI (sL (sI σ1 23 0 12 (Int32.ofNat (a_q a1).length)) 58 mi (a_q a1).length (pk8 (T.2.1 (a_p a1)) 0)) 60 mi (a_q a1).length 0) 59 mi (a_q a1).length 38).2.2.1 23 0 7 = (22, mi) := c1
        have c10 : (sI (sI (sL (sI σ1 23 0 12 (Int32.ofNat (a_q a1).length)) 58 mi (a_q a1).length (pk8 (T.2.1 (a_p a1)) 0)) 60 mi (a_q a1).length 0) 59 mi (a_q a1).length 38).1 22 mi 0 = Int32.ofNat (a_q a1).length := by
          rw [gI, if_neg (by omega), gI, if_neg (by omega), gLI, gI, if_neg (by omega)]; exact h1.2.2.1.1
        rw [c9, rq_t, rq_t, c10, i_s, pb_pb]
        have hqn : HQ (a_q a1).length (aQ a1 (a_q a1 ++ [(T.2.1 (a_p a1), 38, [], zL a1)])) := ⟨hb1, by show (a_q a1 ++ _).length = _; rw [List.length_append]; rfl, (T.2.1 (a_p a1), 38, [], zL a1), by show (a_q a1 ++ _)[(a_q a1).length]? = _; simp, rfl⟩
        have kA : T.1 (a_p (aQ a1 (a_q a1 ++ [(T.2.1 (a_p a1), 38, [], zL a1)]))) = 3 := k3
        refine mnV (d := d + 403) hT hA (by rw [kA]; decide) (by rw [kA]; decide) (fun σ2 n2 h2 => ?_)
        have hi2 := hH 0 (aP (aQ a1 (a_q a1 ++ [(T.2.1 (a_p a1), 38, [], zL a1)])) (a_p (aQ a1 (a_q a1 ++ [(T.2.1 (a_p a1), 38, [], zL a1)])) + 1)) (by unfold zN; rw [if_neg n2]; rfl)
        have hq2 : HQ (a_q a1).length (aP (aQ a1 (a_q a1 ++ [(T.2.1 (a_p a1), 38, [], zL a1)])) (a_p (aQ a1 (a_q a1 ++ [(T.2.1 (a_p a1), 38, [], zL a1)])) + 1)) := hqn
        generalize aP (aQ a1 (a_q a1 ++ [(T.2.1 (a_p a1), 38, [], zL a1)])) (a_p (aQ a1 (a_q a1 ++ [(T.2.1 (a_p a1), 38, [], zL a1)])) + 1) = a2 at *
        rw [pb_r, pb_pb]
        have h3 : PM mi O T N (aR (aM (aK a2 []) 0) 0) (sI (sI (sI σ2 23 0 16 0) 23 0 15 0) 23 0 14 0) := PM_br (n := 0) (PM_m0 (PM_kn (kn := []) h2 (List.nil_prefix)) rfl)
        have hq3 : HQ (a_q a1).length (aR (aM (aK a2 []) 0) 0) := hq2
        generalize aR (aM (aK a2 []) 0) 0 = a3 at *
        generalize sI (sI (sI σ2 23 0 16 0) 23 0 15 0) 23 0 14 0 = σ3 at *
        refine mbVV (m_must (d := d + 402) hT h3 (by decide)) (fun _ a4 σ4 e4 h4 => ?_)
        obtain ⟨k4, n4, e4⟩ := zMust_inr.mp e4
        have E4 : a4 = aP a3 (a_p a3 + 1) := congrArg Prod.snd e4
        have hi4 : HI a4 := by rw [E4]; exact HI_P hi2 (by omega)
        have hq4 : HQ (a_q a1).length a4 := by rw [E4]; exact hq3
        rw [m_is h4 (by decide), bI_r, pb_pb]
        by_cases k41 : T.1 (a_p a4) = 41
        · rw [if_pos k41, if_neg (by decide), if_pos k41, pb_r, pb_pb]
          exact m_194 (d := d) hT h4 hi4 hq4
        · rw [if_neg k41, if_pos rfl, if_neg k41, f_X13_params, q_X13_params_0]
          refine mbVV (m_pars (d := d + 399) hT 801 a4 σ4 vU h4 hi4 (by omega)) (fun y5 a5 σ5 e5 h5 => ?_)
          rw [pb_pb]
          exact m_194 (d := d) hT h5 (Pars_H hT 801 a4 _ a5 hi4 (PM_len h4) e5).1 (HQ_pars hT 801 a4 _ a5 hi4 hq4 (PM_len h4) e5)
    · rw [if_neg f1, if_neg f1, PM_at h1]
      exact mThV (d := d + 404) h1 hp1 (by omega)
  by_cases q : T.1 (a_p a1) = 3
  · rw [if_pos ((mkd_v _).1.mpr q)]
    exact key 1 ⟨fun z => absurd z (by decide), fun z => absurd q z⟩
  · rw [if_neg (fun z => q ((mkd_v _).1.mp z))]
    exact key 0 ⟨fun _ => q, fun _ => rfl⟩
end
