section
/-! A TICK IN THE REFERENCE -/
variable {X : Nat × (Nat → Int32)} {d : Nat} {s σ σ' τ : sm_S} {W W' : zW} {n i k m j t u : Nat} {c v a b q : Int32} {e e' : zTn}
theorem i32_0 (h1 : ¬ a < 0) (h2 : ¬ 0 < a) : a = 0 := by
  rw [Int32.lt_iff_toInt_lt] at h1 h2
  rw [show (0 : Int32).toInt = 0 from rfl] at h1 h2
  apply Int32.toInt_inj.mp
  rw [show (0 : Int32).toInt = 0 from rfl]
  omega
theorem clp_e : (if b < q then (if b < 0 then (0 : Int32) else b) else (if q < 0 then 0 else q)) = clp q b := by
  have key : ∀ a : Int32, (if a < 0 then (0 : Int32) else a) = if 0 < a then a else 0 := fun a => by
    by_cases h1 : a < 0
    · rw [if_pos h1, if_neg (fun h2 => by
        rw [Int32.lt_iff_toInt_lt] at h1 h2
        rw [show (0 : Int32).toInt = 0 from rfl] at h1 h2
        omega)]
    · rw [if_neg h1]
      by_cases h2 : 0 < a
      · rw [if_pos h2]
      · rw [if_neg h2]; exact i32_0 h1 h2
  unfold clp
  by_cases h : b < q
  · rw [if_pos h, if_pos h]; exact key b
  · rw [if_neg h, if_neg h]; exact key q
theorem m_spd_go (hW : WW W) (h : MW W σ) (hn : n < (w_r W).length) {x2 : Int32} : ∀ (m i : Nat) (p g : Int32) (d6 : sm_V), i + m = (rowAt W n).2.length → ∃ d6', sm_go (sm_ZZ X) sm_PP true (sm_callM X true (d + 1)) 274 14 [vP (23, 0), vI (Int32.ofNat n), vI x2, vI p, vI g, vI (Int32.ofNat i), d6] [] σ = sm_go (sm_ZZ X) sm_PP true (sm_callM X true (d + 1)) 274 14 [vP (23, 0), vI (Int32.ofNat n), vI x2, vI (sumF W 4 ((rowAt W n).2.drop i) p), vI (sumF W 3 ((rowAt W n).2.drop i) g), vI (Int32.ofNat (rowAt W n).2.length), d6'] [] σ
  | 0, i, p, g, d6, hi => by
    rw [List.drop_of_length_le (by omega), show i = (rowAt W n).2.length by omega]
    exact ⟨d6, rfl⟩
  | m + 1, i, p, g, d6, hi => by
    obtain ⟨k, -, -, hl, -⟩ := hW.2.2.1 n hn
    have a1 := hW.1.1
    have a2 := hW.1.2.1
    obtain ⟨k1, k2, k3, k4⟩ := h.2.1.2.2.1 n hn
    rw [q_X13_speedOf_14, ix_nat (by omega) (by omega), k3, if_pos (by rw [i_lt (by omega) (by omega)]; omega), ix_nat (by omega) (by omega), k2, cell_m hW h hn (by omega), k4 i (by omega), getD_drop (by omega)]
    by_cases z : (rowAt W n).2.getD i 0 = 0
    · rw [if_pos z, q_X13_speedOf_60, if_pos z, Int32.add_zero, Int32.add_zero, i_s]
      obtain ⟨d6', g1⟩ := m_spd_go hW h hn (x2 := x2) m (i + 1) p g (vI ((rowAt W n).2.getD i 0)) (by omega)
      refine ⟨d6', ?_⟩
      rw [g1]
      show _ = sm_go _ _ _ _ 274 14 [vP (23, 0), vI (Int32.ofNat n), vI x2, vI (sumF W 4 _ (if _ = 0 then p else _)), vI (sumF W 3 _ (if _ = 0 then g else _)), _, d6'] [] σ
      rw [if_pos z, if_pos z]
    · obtain ⟨v, v1, v2, v3, v4⟩ := cell_ok hW hn (by omega) z
      have hne := (rfV_pos (n := v) (by omega)).2.1
      rw [if_neg z, v2, m_asV, bI_r, rfV_1, m_pull hW h v1, bI_r, q_X13_speedOf_60, if_neg hne, m_asV, bI_r, rfV_1, m_grip hW h v1, bI_r, i_s]
      obtain ⟨d6', g1⟩ := m_spd_go hW h hn (x2 := x2) m (i + 1) (p + vPull (vehAt W v)) (g + vGrip (vehAt W v)) (vI (rfV v)) (by omega)
      refine ⟨d6', ?_⟩
      rw [g1]
      show _ = sm_go _ _ _ _ 274 14 [vP (23, 0), vI (Int32.ofNat n), vI x2, vI (sumF W 4 _ (if _ = 0 then p else _)), vI (sumF W 3 _ (if _ = 0 then g else _)), _, d6'] [] σ
      rw [if_neg hne, if_neg hne, v3]; rfl
theorem m_speed (hW : WW W) (h : MW W σ) (hn : n < (w_r W).length) : sm_callM X true (d + 3) 274 [vP (23, 0), vI (Int32.ofNat n)] σ = rI (spdF W n) σ := by
  have a2 := hW.1.2.1
  obtain ⟨k, -, -, hl, -⟩ := hW.2.2.1 n hn
  obtain ⟨d6', g1⟩ := m_spd_go (X := X) (d := d + 1) (x2 := sumF W 2 (rowAt W n).2 0) hW h hn (rowAt W n).2.length 0 0 0 vU (Nat.zero_add _)
  have g1 : sm_go (sm_ZZ X) sm_PP true (sm_callM X true (d + 2)) 274 14 [vP (23, 0), vI (Int32.ofNat n), vI (sumF W 2 (rowAt W n).2 0), vI 0, vI 0, vI 0, vU] [] σ = sm_go (sm_ZZ X) sm_PP true (sm_callM X true (d + 2)) 274 14 [vP (23, 0), vI (Int32.ofNat n), vI (sumF W 2 (rowAt W n).2 0), vI (sumF W 4 (rowAt W n).2 0), vI (sumF W 3 (rowAt W n).2 0), vI (Int32.ofNat (rowAt W n).2.length), d6'] [] σ := g1
  rw [f_X13_speedOf, q_X13_speedOf_0, m_massOf hW h hn, bI_r, g1, q_X13_speedOf_14, ix_nat (by omega) (by omega), (h.2.1.2.2.1 n hn).2.2.1, if_neg (by rw [i_lt (by omega) (by omega)]; omega)]
  have fin : ∀ (x : Int32) (d0 d1 d2 d3 d5 d6 : sm_V) (g : Int32), sm_go (sm_ZZ X) sm_PP true (sm_callM X true (d + 2)) 274 103 [d0, d1, d2, d3, vI g, d5, d6] [vI x] σ = rI (clp x (g / 5 + 1)) σ := fun x d0 d1 d2 d3 d5 d6 g => by
    rw [q_X13_speedOf_103, ← clp_e]
    by_cases h1 : g / 5 + 1 < x
    · rw [if_pos h1, if_pos h1]; split <;> rfl
    · rw [if_neg h1, if_neg h1]; split <;> rfl
  unfold spdF
  by_cases z : sumF W 2 (rowAt W n).2 0 < 1
  · rw [if_pos z, if_pos z, fin]
    have : clp 0 (sumF W 3 (rowAt W n).2 0 / 5 + 1) = 0 := by
      generalize sumF W 3 (rowAt W n).2 0 / 5 + 1 = y
      rw [← clp_e]
      by_cases h1 : y < 0
      · rw [if_pos h1, if_pos h1]
      · rw [if_neg h1]; rfl
    rw [this]
  · rw [if_neg z, if_neg z, if_neg (fun q => z (by rw [q]; decide)), fin]
theorem bel_17 : ∀ k, k < 13 → mBel (Int32.ofNat k) 17 = cBel (Int32.ofNat k) 17 := by decide +kernel
theorem m_burn_go : ∀ (m i : Nat) (d3 d4 : sm_V) (W : zW) (σ : sm_S), WW W → MW W σ → n < (w_r W).length → i + m = (rowAt W n).2.length → ∃ σ', sm_go (sm_ZZ X) sm_PP true (sm_callM X true (d + 3)) 275 2 [vP (23, 0), vI (Int32.ofNat n), vI (Int32.ofNat i), d3, d4] [] σ = rV σ' ∧ MW (burnW W ((rowAt W n).2.drop i)) σ'
  | 0, i, d3, d4, W, σ, hW, h, hn, hi => by
    have a2 := hW.1.2.1
    obtain ⟨k, -, -, hl, -⟩ := hW.2.2.1 n hn
    rw [q_X13_burns_2, ix_nat (by omega) (by omega), (h.2.1.2.2.1 n hn).2.2.1, if_neg (by rw [i_lt (by omega) (by omega)]; omega), List.drop_of_length_le (by omega)]
    exact ⟨_, rfl, h⟩
  | m + 1, i, d3, d4, W, σ, hW, h, hn, hi => by
    have a1 := hW.1.1
    have a2 := hW.1.2.1
    obtain ⟨k, -, -, hl, hcs⟩ := hW.2.2.1 n hn
    obtain ⟨k1, k2, k3, k4⟩ := h.2.1.2.2.1 n hn
    rw [q_X13_burns_2, ix_nat (by omega) (by omega), k3, if_pos (by rw [i_lt (by omega) (by omega)]; omega), ix_nat (by omega) (by omega), k2, cell_m hW h hn (by omega), k4 i (by omega), getD_drop (by omega)]
    show ∃ σ', _ = rV σ' ∧ MW (burnW (burn1 W _) _) σ'
    by_cases z : (rowAt W n).2.getD i 0 = 0
    · rw [if_pos z, i_s]
      have eb : burn1 W ((rowAt W n).2.getD i 0) = W := by unfold burn1; rw [if_pos z]
      rw [eb]
      exact m_burn_go m (i + 1) _ _ W σ hW h hn (by omega)
    · obtain ⟨v, v1, v2, v3, v4⟩ := cell_ok hW hn (by omega) z
      have hc := hcs _ (getD_mem z)
      obtain ⟨⟨kk, kk1, kk2, kk3⟩, -⟩ := hW.2.1 v v1
      have h74 := (h.1.2.1 v v1).1
      have h75 : σ.1 75 0 (9 * v + 8) = (vehAt W v).2 8 := (h.1.2.1 v v1).2 8 (by decide)
      have hne := (rfV_pos (n := v) (by omega)).2.1
      have e98 : (9 : Int32) * Int32.ofNat v + 8 = Int32.ofNat (9 * v + 8) := i9
      rw [if_neg z]
      rw [v2] at hc ⊢
      have wb := WW_burn1 hW hc
      have bi := m_isBelow (X := X) (d := d) (s := σ) kk (by omega) 17
      rw [bel_17 kk kk1] at bi
      rw [m_asV, bI_r, rfV_1, ix_nat (by omega) (by omega), h74, kk2, bi, bI_r]
      have recur : ∀ (τ : sm_S) (d3 d4 : sm_V), MW (burn1 W (rfV v)) τ → ∃ σ', sm_go (sm_ZZ X) sm_PP true (sm_callM X true (d + 3)) 275 2 [vP (23, 0), vI (Int32.ofNat n), vI (Int32.ofNat (i + 1)), d3, d4] [] τ = rV σ' ∧ MW (burnW (burn1 W (rfV v)) ((rowAt W n).2.drop (i + 1))) σ' := fun τ d3 d4 hτ => by
        obtain ⟨σ', g1, g2⟩ := m_burn_go m (i + 1) d3 d4 (burn1 W (rfV v)) τ wb hτ (by rw [burn1_l]; exact hn) (by rw [burn1_r]; omega)
        rw [burn1_r] at g2
        exact ⟨σ', g1, g2⟩
      have eb : burn1 W (rfV v) = if 0 < (vehAt W v).2 8 then setV W v 8 ((vehAt W v).2 8 - 1) else W := by
        unfold burn1; rw [if_neg hne, ixV_rf (by omega)]
      rcases cBel_01 (Int32.ofNat kk) 17 with w | w
      · have h0 : (vehAt W v).2 8 = 0 := kk3 (by rw [w]; decide)
        rw [if_pos w, i_s]
        refine recur σ _ _ ?_
        rw [eb, h0, if_neg (by decide)]; exact h
      · rw [if_neg (by rw [w]; decide), m_asV, bI_r, rfV_1, e98, ix_nat (by omega) (by omega), h75]
        by_cases y : 0 < (vehAt W v).2 8
        · rw [if_pos y, ix_nat (by omega) (by omega), h75, ix_nat (by omega) (by omega), i_s]
          refine recur _ _ _ ?_
          rw [eb, if_pos y]
          exact MW_setV (f := 8) h v1 (by decide)
        · rw [if_neg y, ix_nat (by omega) (by omega), h75, ix_nat (by omega) (by omega), i_s]
          refine recur _ _ _ ?_
          rw [eb, if_neg y]
          refine MW_i (σ := σ) (fun t i' k' ht => ?_) h
          by_cases q : t = 75 ∧ i' = 0 ∧ k' = 9 * v + 8
          · rw [gI, if_pos q, q.1, q.2.1, q.2.2]; exact h75.symm
          · rw [gI, if_neg q]
theorem m_burn (hW : WW W) (h : MW W σ) (hn : n < (w_r W).length) : ∃ σ', sm_callM X true (d + 4) 275 [vP (23, 0), vI (Int32.ofNat n)] σ = rV σ' ∧ MW (burnW W (rowAt W n).2) σ' := by
  rw [f_X13_burns, q_X13_burns_0]
  exact m_burn_go (rowAt W n).2.length 0 _ _ W σ hW h hn (Nat.zero_add _)
theorem MW_setN (h : MW W σ) (he : (w_n W)[t]? = some e) (h1 : e'.1 = e.1) (h2 : e'.2.1 = e.2.1) (hI : ∀ u i k, ¬ (94 ≤ u ∧ u ≤ 96 ∧ i = 0 ∧ k = t) → σ'.1 u i k = σ.1 u i k) (hm : σ'.1 94 0 t = e'.2.2.1) (hs : σ'.1 96 0 t = e'.2.2.2.1) (hg : σ'.1 95 0 t = e'.2.2.2.2) : MW (setN W t e') σ' := by
  have ht := (List.getElem?_eq_some_iff.mp he).1
  have hl : (w_n (setN W t e')).length = (w_n W).length := List.length_set
  obtain ⟨n1, n2⟩ := h.2.2.2.1
  have hx : MW W (fun u i k => if 94 ≤ u ∧ u ≤ 96 then σ.1 u i k else σ'.1 u i k, σ'.2) := MW_i (σ := σ) (fun u i k _ => by
    show (if 94 ≤ u ∧ u ≤ 96 then σ.1 u i k else σ'.1 u i k) = σ.1 u i k
    by_cases q : 94 ≤ u ∧ u ≤ 96
    · rw [if_pos q]
    · rw [if_neg q]; exact hI u i k (by omega)) h
  obtain ⟨x1, x2, x3, -, x5⟩ := hx
  refine ⟨x1, x2, x3, ⟨?_, fun u q hq => ?_⟩, x5⟩
  · rw [hl, hI _ _ _ (by omega)]; exact n1
  · rw [setN_at ht] at hq
    by_cases y : t = u
    · rw [if_pos y] at hq
      cases hq
      obtain ⟨m1, m2, m3, m4, m5⟩ := n2 t e he
      rw [← y]
      exact ⟨by rw [hI _ _ _ (by omega), h1]; exact m1, by rw [hI _ _ _ (by omega), h2]; exact m2, hm, hs, hg⟩
    · rw [if_neg y] at hq
      obtain ⟨m1, m2, m3, m4, m5⟩ := n2 u q hq
      exact ⟨by rw [hI _ _ _ (by omega)]; exact m1, by rw [hI _ _ _ (by omega)]; exact m2, by rw [hI _ _ _ (by omega)]; exact m3, by rw [hI _ _ _ (by omega)]; exact m4, by rw [hI _ _ _ (by omega)]; exact m5⟩
theorem m_goes (hW : WW W) (h : MW W σ) (he : (w_n W)[t]? = some e) (h0 : e.2.2.2.2 = 0) : ∃ σ', sm_callM X true (d + 8) 276 [vP (23, 0), vI (Int32.ofNat t)] σ = rI (Int32.ofNat (moveT W t e).1) σ' ∧ MW (moveT W t e).2 σ' := by
  obtain ⟨hn, hg8, -⟩ := hW.2.2.2.2 e (List.mem_of_getElem? he)
  have ht := (List.getElem?_eq_some_iff.mp he).1
  have a2 := hW.1.2.1
  have a10 := hW.1.2.2.2.1
  obtain ⟨b1, b2, b3, b4, b5, b6⟩ := burnT_ok (e := e) hW hn
  have he' : (w_n (burnT W e))[t]? = some e := by rw [b3]; exact he
  have ht' : t < (w_n (burnT W e)).length := by rw [b3]; exact ht
  obtain ⟨m1, m2, m3, m4, m5⟩ := h.2.2.2.1.2 t e he
  have sp := m_speed (X := X) (d := d + 4) hW h hn
  have sp : sm_callM X true (d + 7) 274 [vP (23, 0), vI (Int32.ofNat e.1)] σ = _ := sp
  have e94 : (sI σ 96 0 t (spdF W e.1)).1 94 0 t = e.2.2.1 := m3
  rw [f_X13_goes, q_X13_goes_0, ix_nat (by omega) (by omega), m1, show (1001 : Int32) = Int32.ofNat 1001 from rfl, i_sub, sp, bI_r, ix_nat (by omega) (by omega), ix_nat (by omega) (by omega), ix_nat (by omega) (by omega), e94]
  have hset : MW (setN W t (e.1, e.2.1, e.2.2.1 - spdF W e.1, spdF W e.1, e.2.2.2.2)) (sI (sI σ 96 0 t (spdF W e.1)) 94 0 t (e.2.2.1 - spdF W e.1)) := by
    refine MW_setN h he rfl rfl (fun u i k hu => by rw [gI, if_neg (by omega), gI, if_neg (by omega)]) (by rw [gI, if_pos ⟨rfl, rfl, rfl⟩]) (by rw [gI, if_neg (by omega), gI, if_pos ⟨rfl, rfl, rfl⟩]) m5
  have hW1 : WW (setN W t (e.1, e.2.1, e.2.2.1 - spdF W e.1, spdF W e.1, e.2.2.2.2)) := WW_setN hW he rfl rfl
  have rest : ∀ (τ : sm_S) (d2 d3 d4 : sm_V), MW (setN (burnT W e) t (e.1, e.2.1, e.2.2.1 - spdF W e.1, spdF W e.1, e.2.2.2.2)) τ → ∃ σ', sm_go (sm_ZZ X) sm_PP true (sm_callM X true (d + 7)) 276 43 [vP (23, 0), vI (Int32.ofNat t), d2, d3, d4] [] τ = rI (Int32.ofNat (moveT W t e).1) σ' ∧ MW (moveT W t e).2 σ' := fun τ d2 d3 d4 hτ => by
    obtain ⟨k1, k2, k3, k4, k5⟩ := hτ.2.2.2.1.2 t (e.1, e.2.1, e.2.2.1 - spdF W e.1, spdF W e.1, e.2.2.2.2) (by rw [setN_at ht', if_pos rfl])
    have k1 : τ.1 92 0 t = Int32.ofNat (1001 + e.1) := k1
    have k2 : τ.1 93 0 t = Int32.ofNat e.2.1 := k2
    have k3 : τ.1 94 0 t = e.2.2.1 - spdF W e.1 := k3
    have k4 : τ.1 96 0 t = spdF W e.1 := k4
    have k5 : τ.1 95 0 t = e.2.2.2.2 := k5
    rw [q_X13_goes_43, ix_nat (by omega) (by omega), k3]
    unfold moveT
    by_cases z : 0 < e.2.2.1 - spdF W e.1
    · rw [if_pos z, if_pos z]
      exact ⟨τ, rfl, hτ⟩
    · rw [if_neg z, if_neg z, ix_nat (by omega) (by omega), ix_nat (by omega) (by omega), ix_nat (by omega) (by omega)]
      have h0τ : MW (setN (burnT W e) t (e.1, e.2.1, 0, spdF W e.1, e.2.2.2.2)) (sI τ 94 0 t 0) := by
        have := MW_setN (t := t) (e := (e.1, e.2.1, e.2.2.1 - spdF W e.1, spdF W e.1, e.2.2.2.2)) (e' := (e.1, e.2.1, 0, spdF W e.1, e.2.2.2.2)) (σ' := sI τ 94 0 t 0) hτ (by rw [setN_at ht', if_pos rfl]) rfl rfl (fun u i k hu => by rw [gI, if_neg (by omega)]) (by rw [gI, if_pos ⟨rfl, rfl, rfl⟩]) k4 k5
        rw [setN_2 ht'] at this
        exact this
      have hW0 : WW (setN (burnT W e) t (e.1, e.2.1, 0, spdF W e.1, e.2.2.2.2)) := WW_setN b1 he' rfl rfl
      have hvt : VT (setN (burnT W e) t (e.1, e.2.1, 0, spdF W e.1, e.2.2.2.2)) 18 (rfR e.1) := VT_le (WLe_o (W := burnT W e) rfl rfl) (VT_le b2 (VT_train hW (List.mem_of_getElem? he)))
      have et := m_takes (X := X) (d := d + 1) hW0 h0τ hvt hg8
      rw [mV_r1 (by decide) (by omega)] at et
      have et : sm_callM X true (d + 7) 269 [vP (23, 0), vI (Int32.ofNat e.2.1), vI (Int32.ofNat (1001 + e.1))] (sI τ 94 0 t 0) = _ := et
      have k1' : (sI τ 94 0 t 0).1 92 0 t = Int32.ofNat (1001 + e.1) := k1
      have k2' : (sI τ 94 0 t 0).1 93 0 t = Int32.ofNat e.2.1 := k2
      rw [k1', k2', et, bI_r]
      by_cases y : mayLay (burnT W e) e.2.1 (rfR e.1)
      · rw [if_pos (show rfR e.1 ≠ 0 ∧ mayLay (setN (burnT W e) t (e.1, e.2.1, 0, spdF W e.1, e.2.2.2.2)) e.2.1 (rfR e.1) from ⟨rfR_ne (by omega), y⟩), if_neg (show ¬ (1 : Int32) = 0 by decide), if_pos y, q_X13_goes_94, rq_t, ix_nat (by omega) (by omega), if_neg (show ¬ (1 : Int32) = 0 by decide), ix_nat (by omega) (by omega), ix_nat (by omega) (by omega)]
        have k1'' : (sI (sI τ 94 0 t 0) 95 0 t 1).1 92 0 t = Int32.ofNat (1001 + e.1) := k1
        have k2'' : (sI (sI τ 94 0 t 0) 95 0 t 1).1 93 0 t = Int32.ofNat e.2.1 := k2
        rw [k2'', ix_nat (by omega) (by omega), k1'']
        refine ⟨_, rfl, ?_⟩
        have g3 := MW_setN (t := t) (e := (e.1, e.2.1, 0, spdF W e.1, e.2.2.2.2)) (e' := (e.1, e.2.1, 0, spdF W e.1, 1)) (σ' := sI (sI τ 94 0 t 0) 95 0 t 1) h0τ (by rw [setN_at ht', if_pos rfl]) rfl rfl (fun u i k hu => by rw [gI, if_neg (by omega)]) (by rw [gI, if_neg (by omega), gI, if_pos ⟨rfl, rfl, rfl⟩]) k4 (by rw [gI, if_pos ⟨rfl, rfl, rfl⟩])
        rw [setN_2 ht'] at g3
        have g4 := MW_track (k := e.2.1) (c := rfR e.1) g3
        rw [mV_r1 (by decide) (by omega)] at g4
        exact g4
      · rw [if_neg (show ¬ (rfR e.1 ≠ 0 ∧ mayLay (setN (burnT W e) t (e.1, e.2.1, 0, spdF W e.1, e.2.2.2.2)) e.2.1 (rfR e.1)) from fun q => y q.2), if_pos (show (0 : Int32) = 0 from rfl), if_neg y, q_X13_goes_94, rq_t, ix_nat (by omega) (by omega), if_pos (show (0 : Int32) = 0 from rfl)]
        refine ⟨_, rfl, ?_⟩
        have g3 := MW_setN (t := t) (e := (e.1, e.2.1, 0, spdF W e.1, e.2.2.2.2)) (e' := (e.1, e.2.1, 0, spdF W e.1, 2)) (σ' := sI (sI τ 94 0 t 0) 95 0 t 2) h0τ (by rw [setN_at ht', if_pos rfl]) rfl rfl (fun u i k hu => by rw [gI, if_neg (by omega)]) (by rw [gI, if_neg (by omega), gI, if_pos ⟨rfl, rfl, rfl⟩]) k4 (by rw [gI, if_pos ⟨rfl, rfl, rfl⟩])
        rw [setN_2 ht'] at g3
        exact g3
  by_cases z : 0 < spdF W e.1
  · obtain ⟨σ1, f1, f2⟩ := m_burn (X := X) (d := d + 3) (n := e.1) hW1 hset hn
    have f1 : sm_callM X true (d + 7) 275 [vP (23, 0), vI (Int32.ofNat e.1)] (sI (sI σ 96 0 t (spdF W e.1)) 94 0 t (e.2.2.1 - spdF W e.1)) = rV σ1 := f1
    have f2 : MW (burnW (setN W t (e.1, e.2.1, e.2.2.1 - spdF W e.1, spdF W e.1, e.2.2.2.2)) (rowAt W e.1).2) σ1 := f2
    rw [burnW_setN] at f2
    rw [if_pos z, f1, bV_r]
    refine rest σ1 _ _ _ ?_
    unfold burnT
    rw [if_pos z]; exact f2
  · rw [if_neg z]
    refine rest _ _ _ _ ?_
    unfold burnT
    rw [if_neg z]; exact hset
theorem m_ticT {n x3 : Int32} : ∀ (m t : Nat) (W : zW) (σ : sm_S) (x : Int32), WW W → MW W σ → t + m = (w_n W).length → ∃ σ' d4', sm_go (sm_ZZ X) sm_PP true (sm_callM X true (d + 8)) 287 35 [vP (23, 0), vI n, vI x, vI x3, vI (Int32.ofNat t)] [] σ = sm_go (sm_ZZ X) sm_PP true (sm_callM X true (d + 8)) 287 17 [vP (23, 0), vI n, vI (x + Int32.ofNat (ticT m t W).1), vI (x3 + 1), d4'] [] σ' ∧ MW (ticT m t W).2 σ'
  | 0, t, W, σ, x, hW, h, hm => by
    have a10 := hW.1.2.2.2.1
    rw [q_X13_tick_35, h.2.2.2.1.1, if_neg (by rw [i_lt (by omega) (by omega)]; omega)]
    refine ⟨σ, vI (Int32.ofNat t), ?_, h⟩
    show _ = sm_go (sm_ZZ X) sm_PP true (sm_callM X true (d + 8)) 287 17 [vP (23, 0), vI n, vI (x + 0), vI (x3 + 1), _] [] σ
    rw [Int32.add_zero]
  | m + 1, t, W, σ, x, hW, h, hm => by
    have a10 := hW.1.2.2.2.1
    have ht : t < (w_n W).length := by omega
    obtain ⟨e, he⟩ : ∃ e, (w_n W)[t]? = some e := ⟨_, List.getElem?_eq_getElem ht⟩
    obtain ⟨k1, k2, k3, k4, k5⟩ := h.2.2.2.1.2 t e he
    rw [q_X13_tick_35, h.2.2.2.1.1, if_pos (by rw [i_lt (by omega) (by omega)]; omega), ix_nat (by omega) (by omega), k5, ticT, he]
    dsimp only
    by_cases z : e.2.2.2.2 = 0
    · obtain ⟨σ1, f1, f2⟩ := m_goes (X := X) (d := d) hW h he z
      obtain ⟨w1, w2, w3⟩ := moveT_ok (t := t) hW he
      rw [if_pos z, f1, bI_r, if_pos z]
      have go : ∀ y : Int32, y = x + Int32.ofNat (moveT W t e).1 → ∃ σ' d4', sm_go (sm_ZZ X) sm_PP true (sm_callM X true (d + 8)) 287 35 [vP (23, 0), vI n, vI y, vI x3, vI (Int32.ofNat (t + 1))] [] σ1 = sm_go (sm_ZZ X) sm_PP true (sm_callM X true (d + 8)) 287 17 [vP (23, 0), vI n, vI (x + Int32.ofNat ((moveT W t e).1 + (ticT m (t + 1) (moveT W t e).2).1)), vI (x3 + 1), d4'] [] σ' ∧ MW (ticT m (t + 1) (moveT W t e).2).2 σ' := fun y hy => by
        obtain ⟨σ', d4', g1, g2⟩ := m_ticT (n := n) (x3 := x3) m (t + 1) (moveT W t e).2 σ1 y w1 f2 (by rw [w2]; omega)
        refine ⟨σ', d4', ?_, g2⟩
        rw [g1, hy, Int32.add_assoc, ← Int32.ofNat_add]
      have h01 : (moveT W t e).1 = 0 ∨ (moveT W t e).1 = 1 := by omega
      rcases h01 with q | q
      · rw [q] at go
        rw [q, if_pos (show Int32.ofNat 0 = 0 from rfl), i_s]
        exact go _ rfl
      · rw [q] at go
        rw [q, if_neg (show ¬ Int32.ofNat 1 = 0 by decide), i_s]
        exact go _ rfl
    · rw [if_neg z, if_neg z, i_s, Int32.add_zero]
      exact m_ticT m (t + 1) W σ x hW h (by omega)
theorem m_tickN {n : Nat} (hn : n ≤ 200) : ∀ (m i : Nat) (W : zW) (σ : sm_S) (x : Int32) (d4 : sm_V), WW W → MW W σ → i + m = n → ∃ σ', sm_go (sm_ZZ X) sm_PP true (sm_callM X true (d + 8)) 287 17 [vP (23, 0), vI (Int32.ofNat n), vI x, vI (Int32.ofNat i), d4] [] σ = rI (x + Int32.ofNat (tickN m W).1) σ' ∧ MW (tickN m W).2 σ'
  | 0, i, W, σ, x, d4, hW, h, hm => by
    rw [q_X13_tick_17, if_neg (by rw [i_lt (by omega) (by omega)]; omega)]
    exact ⟨σ, by show rI x σ = rI (x + 0) σ; rw [Int32.add_zero], h⟩
  | m + 1, i, W, σ, x, d4, hW, h, hm => by
    have hc : MW (wC W (w_c W + 1)) (sI σ 23 0 61 (w_c W + 1)) := by
      obtain ⟨a, b, t, e, ⟨o1, o2, o3, o4⟩⟩ := h
      exact ⟨a, b, t, e, ⟨by rw [gI, if_pos ⟨rfl, rfl, rfl⟩]; rfl, o2, o3, o4⟩⟩
    rw [q_X13_tick_17, if_pos (by rw [i_lt (by omega) (by omega)]; omega), h.2.2.2.2.1]
    obtain ⟨σ1, d4', f1, f2⟩ := m_ticT (X := X) (d := d) (n := Int32.ofNat n) (x3 := Int32.ofNat i) (w_n W).length 0 (wC W (w_c W + 1)) _ x (WW_c hW) hc (Nat.zero_add _)
    have f1 : sm_go (sm_ZZ X) sm_PP true (sm_callM X true (d + 8)) 287 35 [vP (23, 0), vI (Int32.ofNat n), vI x, vI (Int32.ofNat i), vI 0] [] (sI σ 23 0 61 (w_c W + 1)) = _ := f1
    obtain ⟨σ', g1, g2⟩ := m_tickN hn m (i + 1) (ticT (w_n W).length 0 (wC W (w_c W + 1))).2 σ1 (x + Int32.ofNat (ticT (w_n W).length 0 (wC W (w_c W + 1))).1) d4' (ticT_ok (w_n W).length 0 (wC W (w_c W + 1)) (WW_c hW) (Nat.zero_add _)).1 f2 (by omega)
    refine ⟨σ', ?_, g2⟩
    rw [f1, i_s, g1, Int32.add_assoc, ← Int32.ofNat_add]; rfl
theorem m_tick (hW : WW W) (h : MW W σ) (hn : n ≤ 200) : ∃ σ', sm_callM X true (d + 9) 287 [vP (23, 0), vI (Int32.ofNat n)] σ = rI (Int32.ofNat (tickN n W).1) σ' ∧ MW (tickN n W).2 σ' := by
  obtain ⟨σ', g1, g2⟩ := m_tickN (X := X) (d := d) (n := n) hn n 0 W σ 0 vU hW h (Nat.zero_add _)
  have g1 : sm_go (sm_ZZ X) sm_PP true (sm_callM X true (d + 8)) 287 17 [vP (23, 0), vI (Int32.ofNat n), vI 0, vI 0, vU] [] σ = rI (0 + Int32.ofNat (tickN n W).1) σ' := g1
  rw [f_X13_tick, q_X13_tick_0, if_neg (i_nn (by omega)), show (200 : Int32) = Int32.ofNat 200 from rfl, if_neg (by rw [i_lt (by omega) (by omega)]; omega), g1, Int32.zero_add]
  exact ⟨σ', rfl, g2⟩
end
