section
/-! WHAT IS ASKED OF TRACKS, TRAINS, COUNTS -/
variable {X : Nat × (Nat → Int32)} {d : Nat} {s σ σ' τ : sm_S} {W W' : zW} {B : Nat × Nat} {n i k m j t u ci mi : Nat} {c v a b w : Int32} {e e' : zTn} {x : zTx}
/-- the least track, from k on -/
def lstT (W : zW) (c : Int32) : Nat → Nat → Nat
  | 0, k => k
  | m + 1, k => if w_t W k = c then k else lstT W c m (k + 1)
theorem pR_inj (hW : WW W) (h1 : VT W 18 a) (h2 : VT W 18 b) : (pR a = pR b) ↔ a = b := by
  have a2 := hW.1.2.1
  constructor
  · intro h
    by_cases za : a = 0
    · by_cases zb : b = 0
      · rw [za, zb]
      · exfalso
        have : (pR b).1 = 0 := by rw [← h]; exact pR_0.mpr za
        exact zb (pR_0.mp this)
    · by_cases zb : b = 0
      · exfalso
        have : (pR a).1 = 0 := by rw [h]; exact pR_0.mpr zb
        exact za (pR_0.mp this)
      · obtain ⟨n, k, n1, rfl, -⟩ := VT_r h1 (by decide) (by decide) za
        obtain ⟨n', k', n1', rfl, -⟩ := VT_r h2 (by decide) (by decide) zb
        unfold pR at h
        rw [if_neg za, if_neg zb, ixR_rf (by omega), ixR_rf (by omega)] at h
        have : n = n' := congrArg Prod.snd h
        rw [this]
  · intro h; rw [h]
theorem c_lst (hW : WW W) (h : CW W B σ) (hc : VT W 18 c) (hc0 : c ≠ 0) : ∀ (m k : Nat), k + m = 8 → (∃ j, k ≤ j ∧ j < 8 ∧ w_t W j = c) → sm_go (sm_ZZ X) sm_PP true (sm_callM X true d) 39 2 [vP (12, 0), vP (pR c), vI (Int32.ofNat k)] [] σ = rI (Int32.ofNat (lstT W c m k)) σ
  | 0, k, hm, ⟨j, h1, h2, h3⟩ => by omega
  | m + 1, k, hm, ⟨j, h1, h2, h3⟩ => by
    have hk : k < 8 := by omega
    rw [q_X2_leastTrackWith_2, show (8 : Int32) = Int32.ofNat 8 from rfl, if_pos (by rw [i_lt (by omega) (by omega)]; exact hk), ix_nat hk (by omega), (h.2.2.1 k hk).2, lstT]
    by_cases z : w_t W k = c
    · rw [if_pos (by rw [z]), if_pos z]
    · have hp : ∀ y : Int32, (pR y).1 = 0 ∨ 10 ≤ (pR y).1 := fun y => by
        rcases pR_1 (c := y) with q | q
        · exact Or.inl q
        · right; rw [q]; decide
      rw [if_neg (fun q => z ((pR_inj hW (hW.2.2.2.1 k hk).2 hc).mp q)), if_pos ⟨hp _, hp _⟩, i_s, if_neg z]
      refine c_lst hW h hc hc0 m (k + 1) (by omega) ⟨j, ?_, h2, h3⟩
      rcases Nat.lt_or_ge k j with q | q
      · exact q
      · exact absurd (by rw [show k = j by omega]; exact h3) z
theorem m_lst (hW : WW W) (h : MW W σ) (hn : n < 8) : ∀ (m k : Nat), k + m = 8 → (∃ j, k ≤ j ∧ j < 8 ∧ w_t W j = w_t W n) → sm_go (sm_ZZ X) sm_PP true (sm_callM X true d) 289 2 [vP (23, 0), vI (Int32.ofNat n), vI (Int32.ofNat k)] [] σ = rI (Int32.ofNat (lstT W (w_t W n) m k)) σ
  | 0, k, hm, ⟨j, h1, h2, h3⟩ => by omega
  | m + 1, k, hm, ⟨j, h1, h2, h3⟩ => by
    have hk : k < 8 := by omega
    rw [q_X13_least_2, ix_nat hk (by omega), ix_nat hn (by omega), (h.2.2.1 k hk).2, (h.2.2.1 n hn).2, lstT]
    by_cases z : w_t W k = w_t W n
    · rw [if_pos (by rw [z]), if_pos z]
    · rw [if_neg (fun q => z ((mV_eq hW (hW.2.2.2.1 n hn).2 (hW.2.2.2.1 k hk).2 (by decide) (by decide)).mp q)), i_s, if_neg z]
      refine m_lst hW h hn m (k + 1) (by omega) ⟨j, ?_, h2, h3⟩
      rcases Nat.lt_or_ge k j with q | q
      · exact q
      · exact absurd (by rw [show k = j by omega]; exact h3) z
theorem q_track (hW : WW W) (h : CW W B σ) (hm : MW W τ) : ∃ y, sm_callM X true (d + 4) 176 [vP (21, 0), vI a, vI w] σ = rI y σ ∧ sm_callM X true (d + 4) 290 [vP (23, 0), vI a, vI w] τ = rI y τ := by
  have a2 := hW.1.2.1
  rw [f_X11_track, q_X11_track_0, f_X2_tellTrack, q_X2_tellTrack_0, f_X13_track, q_X13_track_0, c_isTrack, bI_r, m_isTrack, bI_r]
  by_cases z : isTr a
  · obtain ⟨k, k1, k2, k3⟩ := isTr_n z
    have hvt := (hW.2.2.2.1 k k1).2
    rw [if_pos z, if_neg (show ¬ (1 : Int32) = 0 by decide), if_neg (show ¬ (1 : Int32) = 0 by decide), k2, ix_nat (by omega) (by omega), ix_nat (by omega) (by omega), ix_nat (by omega) (by omega), (h.2.2.1 k k1).1, (h.2.2.1 k k1).2, ix_nat (by omega) (by omega), (hm.2.2.1 k k1).1, (hm.2.2.1 k k1).2]
    by_cases c0 : w_t W k = 0
    · have em : mV 18 (w_t W k) - 1001 < 0 := by rw [c0, mV_0]; decide
      have ep : (pR (w_t W k)).1 = 0 := pR_0.mpr c0
      rw [if_pos ep, if_pos ep, if_pos ep, if_pos em, if_pos em, if_pos em]
      by_cases w0 : w = 0
      · rw [if_pos w0, if_pos w0, bI_r]; exact ⟨_, rfl, rfl⟩
      · rw [if_neg w0, if_neg w0]
        by_cases w1 : w = 1
        · rw [if_pos w1, if_pos w1, bI_r]; exact ⟨_, rfl, rfl⟩
        · rw [if_neg w1, if_neg w1]
          by_cases w2 : w = 2
          · rw [if_pos w2, if_pos w2, bI_r]; exact ⟨_, rfl, rfl⟩
          · rw [if_neg w2, if_neg w2]
            by_cases w3 : w = 3
            · rw [if_pos w3, if_pos w3, bI_r]; exact ⟨_, rfl, rfl⟩
            · rw [if_neg w3, if_neg w3, bI_r]; exact ⟨_, rfl, rfl⟩
    · obtain ⟨n, kk, n1, n2, -⟩ := VT_r hvt (by decide) (by decide) c0
      have ep : pR (w_t W k) = (16, n) := by unfold pR; rw [if_neg c0, n2, ixR_rf (by omega)]
      have emv : mV 18 (w_t W k) - 1001 = Int32.ofNat n := by
        rw [n2, mV_r1 (by decide) (by omega), show (1001 : Int32) = Int32.ofNat 1001 from rfl, i_sub]
      have enn : ¬ Int32.ofNat n < 0 := i_nn (by omega)
      obtain ⟨-, g2, g3, g4, -⟩ := h.2.1.2.2.2.2.1 n n1
      obtain ⟨p1, p2, p3, p4⟩ := hm.2.1.2.2.1 n n1
      have l1 := c_lst (X := X) (d := d + 1) hW h hvt c0 8 0 rfl ⟨k, Nat.zero_le _, k1, rfl⟩
      rw [ep] at l1
      have l1' : sm_callM X true (d + 2) 39 [vP (12, 0), vP (16, n)] σ = rI (Int32.ofNat (lstT W (w_t W k) 8 0)) σ := by
        rw [f_X2_leastTrackWith, q_X2_leastTrackWith_0]; exact l1
      have l2 := m_lst (X := X) (d := d + 2) hW hm k1 8 0 rfl ⟨k, Nat.zero_le _, k1, rfl⟩
      have l2' : sm_callM X true (d + 3) 289 [vP (23, 0), vI (Int32.ofNat k)] τ = rI (Int32.ofNat (lstT W (w_t W k) 8 0)) τ := by
        rw [f_X13_least, q_X13_least_0]; exact l2
      rw [ep, emv, if_neg n16, if_neg n16, if_neg n16, if_neg enn, if_neg enn, if_neg enn, rq_t, rq_t, g2, g4, ix_nat (by omega) (by omega), ix_nat (by omega) (by omega), p1, p3, l1', l2']
      by_cases w0 : w = 0
      · rw [if_pos w0, if_pos w0, bI_r]; exact ⟨_, rfl, rfl⟩
      · rw [if_neg w0, if_neg w0]
        by_cases w1 : w = 1
        · rw [if_pos w1, if_pos w1, bI_r]; exact ⟨_, rfl, rfl⟩
        · rw [if_neg w1, if_neg w1]
          by_cases w2 : w = 2
          · rw [if_pos w2, if_pos w2, bI_r]; exact ⟨_, rfl, rfl⟩
          · rw [if_neg w2, if_neg w2]
            by_cases w3 : w = 3
            · rw [if_pos w3, if_pos w3, bI_r, bI_r]; exact ⟨_, rfl, rfl⟩
            · rw [if_neg w3, if_neg w3, bI_r]; exact ⟨_, rfl, rfl⟩
  · rw [if_neg z, if_pos rfl, if_pos rfl, bI_r]; exact ⟨_, rfl, rfl⟩
theorem q_place (hW : WW W) (h : CW W B σ) (hm : MW W τ) : ∃ y, sm_callM X true (d + 4) 177 [vP (21, 0), vI a, vI w] σ = rI y σ ∧ sm_callM X true (d + 4) 291 [vP (23, 0), vI a, vI w] τ = rI y τ := by
  have a1 := hW.1.1
  have a2 := hW.1.2.1
  have e1 := c_rowOn (X := X) (d := d + 1) (c := a) h
  have e1 : sm_callM X true (d + 3) 33 [vP (12, 0), vI a] σ = _ := e1
  rw [f_X11_place, q_X11_place_0, e1, bP_r, f_X13_place, q_X13_place_0, m_isTrack, bI_r]
  by_cases z : isTr a
  · obtain ⟨k, k1, k2, k3⟩ := isTr_n z
    have hvt := (hW.2.2.2.1 k k1).2
    rw [if_pos z, if_pos z, if_neg (show ¬ (1 : Int32) = 0 by decide), k3, k2, ix_nat (by omega) (by omega), ix_nat (by omega) (by omega), (hm.2.2.1 k k1).2]
    by_cases c0 : w_t W k = 0
    · rw [if_pos (pR_0.mpr c0), if_pos ((mV_z hW hvt).mpr c0)]; exact ⟨_, rfl, rfl⟩
    · obtain ⟨n, kk, n1, n2, -⟩ := VT_r hvt (by decide) (by decide) c0
      have ep : pR (w_t W k) = (16, n) := by unfold pR; rw [if_neg c0, n2, ixR_rf (by omega)]
      have emv : mV 18 (w_t W k) - 1001 = Int32.ofNat n := by
        rw [n2, mV_r1 (by decide) (by omega), show (1001 : Int32) = Int32.ofNat 1001 from rfl, i_sub]
      obtain ⟨kr, kr1, kr2, kl, hcs⟩ := hW.2.2.1 n n1
      obtain ⟨p1, p2, p3, p4⟩ := hm.2.1.2.2.1 n n1
      rw [if_neg (fun q => c0 (pR_0.mp q)), if_neg (fun q => c0 ((mV_z hW hvt).mp q)), ep, if_pos rfl, emv]
      have none' : ¬ hasPl W n w → sm_callM X true (d + 3) 122 [vP (16, n), vI w] σ = rP (0, 0) σ := fun q => by
        rw [f_X6_vehicleAt, q_X6_vehicleAt_0, c_hasPlace hW h n1, bI_r, if_neg q, if_pos rfl]
      by_cases y : w < 0
      · rw [none' (fun q => q.1 y), bP_r, if_pos rfl, if_pos y]; exact ⟨_, rfl, rfl⟩
      · rw [if_neg y, ix_nat (by omega) (by omega), p3]
        by_cases q : hasPl W n w
        · obtain ⟨i, i1, i2, i3⟩ := hasPl_n q kl
          have ev := c_vehAt (X := X) (d := d + 1) hW h n1 q
          have ev : sm_callM X true (d + 3) 122 [vP (16, n), vI w] σ = _ := ev
          rw [ev, bP_r, if_pos ((hasPl_i kl y).mpr q.2), ix_nat (by omega) (by omega), p2, i2, cell_m hW hm n1 i1, p4 i i1, m_asV, bI_r, i_tn (by omega)]
          by_cases c1 : (rowAt W n).2.getD i 0 = 0
          · rw [if_pos (pV_0.mpr c1), c1]; exact ⟨_, rfl, rfl⟩
          · obtain ⟨v, v1, v2, v3, v4⟩ := cell_ok hW n1 i1 c1
            rw [if_neg (fun p => c1 (pV_0.mp p)), v4, rq_t, (h.1.2.2.1 v v1).2.2.1, v2, rfV_1]; exact ⟨_, rfl, rfl⟩
        · rw [none' q, bP_r, if_pos rfl, if_neg (fun p => q ⟨y, (hasPl_i kl y).mp p⟩)]; exact ⟨_, rfl, rfl⟩
  · rw [if_neg z, if_neg z, if_pos rfl, if_pos rfl]; exact ⟨_, rfl, rfl⟩
theorem q_train (hW : WW W) (h : CW W B σ) (hm : MW W τ) : ∃ y, sm_callM X true (d + 5) 178 [vP (21, 0), vI a, vI w] σ = rI y σ ∧ sm_callM X true (d + 5) 292 [vP (23, 0), vI a, vI w] τ = rI y τ := by
  have a10 := hW.1.2.2.2.1
  have a2 := hW.1.2.1
  have no : sm_go (sm_ZZ X) sm_PP true (sm_callM X true (d + 3)) 40 22 [vP (12, 0), vI a, vI w, vU] [vP (0, 0)] σ = rI (-1) σ := by rw [q_X2_tellTrain_22, if_pos rfl]
  rw [f_X11_train, q_X11_train_0, f_X2_tellTrain, q_X2_tellTrain_0, f_X13_train, q_X13_train_0, h.2.2.2.1.1, hm.2.2.2.1.1]
  by_cases z : a < 0
  · rw [if_pos z, if_pos z, no, bI_r]; exact ⟨_, rfl, rfl⟩
  · rw [if_neg z, if_neg z]
    by_cases y : a < Int32.ofNat (w_n W).length
    · obtain ⟨t, t1, rfl⟩ := i32_nat (by omega) z y
      obtain ⟨e, he⟩ : ∃ e, (w_n W)[t]? = some e := ⟨_, List.getElem?_eq_getElem t1⟩
      obtain ⟨hn, -⟩ := hW.2.2.2.2 e (List.mem_of_getElem? he)
      obtain ⟨k1, k2, k3, k4, k5, k6⟩ := h.2.2.2.1.2.2.1 t e he
      obtain ⟨m1, m2, m3, m4, m5⟩ := hm.2.2.2.1.2 t e he
      have s2 := c_sum (X := X) (d := d) (f := 2) hW h hn (by decide)
      have s2 : sm_callM X true (d + 3) 127 [vP (16, e.1), vI 2] σ = _ := s2
      have g2 := m_massOf (X := X) (d := d + 2) hW hm hn
      have g2 : sm_callM X true (d + 4) 273 [vP (23, 0), vI (Int32.ofNat e.1)] τ = _ := g2
      rw [if_pos y, if_pos y, ix_nat (by omega) (by omega), k1, q_X2_tellTrain_22, if_neg (show ¬ ((18, t) : Nat × Nat).1 = 0 by simp), rq_t, rq_t, rq_t, rq_t, rq_t, k2, k3, k4, k5, k6, if_pos rfl, s2, ix_nat (by omega) (by omega), ix_nat (by omega) (by omega), ix_nat (by omega) (by omega), ix_nat (by omega) (by omega), ix_nat (by omega) (by omega), m1, m2, m3, m4, m5, show (1001 : Int32) = Int32.ofNat 1001 from rfl, i_sub, g2]
      by_cases w0 : w = 0
      · rw [if_pos w0, if_pos w0, bI_r]; exact ⟨_, rfl, rfl⟩
      · rw [if_neg w0, if_neg w0]
        by_cases w1 : w = 1
        · rw [if_pos w1, if_pos w1, bI_r]; exact ⟨_, rfl, rfl⟩
        · rw [if_neg w1, if_neg w1]
          by_cases w2 : w = 2
          · rw [if_pos w2, if_pos w2, bI_r]; exact ⟨_, rfl, rfl⟩
          · rw [if_neg w2, if_neg w2]
            by_cases w3 : w = 3
            · rw [if_pos w3, if_pos w3, bI_r]; exact ⟨_, rfl, rfl⟩
            · rw [if_neg w3, if_neg w3]
              by_cases w4 : w = 4
              · rw [if_pos w4, if_pos w4, bI_r, bI_r, bI_r]; exact ⟨_, rfl, rfl⟩
              · rw [if_neg w4, if_neg w4, bI_r]; exact ⟨_, rfl, rfl⟩
    · rw [if_neg y, if_neg y, no, bI_r]; exact ⟨_, rfl, rfl⟩
theorem q_count (h : CW W B σ) (hm : MW W τ) (hx : CTx x ci σ) (h5 : σ.2.2.1 21 0 5 = (10, ci)) (mx : MTx x mi τ) (m6 : τ.2.2.1 23 0 6 = (22, mi)) (ht : σ.1 17 0 1 = τ.1 23 0 1) : ∃ y, sm_callM X true (d + 2) 179 [vP (21, 0), vI a] σ = rI y σ ∧ sm_callM X true (d + 2) 293 [vP (23, 0), vI a] τ = rI y τ := by
  have e9 : σ.1 10 ci 9 - 5 = Int32.ofNat x.2.2.length := by rw [hx.2.1]; exact i_sub (p := 5)
  rw [f_X11_count, q_X11_count_0, f_X13_count, q_X13_count_0, h5, if_pos rfl, f_X0_ownProcs, q_X0_ownProcs_0, e9, m6, rq_t, mx.2.1, h.1.1, hm.1.1, h.2.1.1, hm.2.1.1, h.2.1.2.1, hm.2.1.2.1, h.2.2.2.1.1, hm.2.2.2.1.1, h.2.2.2.2.1.1, hm.2.2.2.2.1, h.2.2.2.2.1.2.1, hm.2.2.2.2.2.1, h.2.2.2.2.1.2.2.1, hm.2.2.2.2.2.2.1, ht]
  by_cases w0 : a = 0
  · rw [if_pos w0, if_pos w0, bI_r]; exact ⟨_, rfl, rfl⟩
  · rw [if_neg w0, if_neg w0]
    by_cases w1 : a = 1
    · rw [if_pos w1, if_pos w1]; exact ⟨_, rfl, rfl⟩
    · rw [if_neg w1, if_neg w1]
      by_cases w2 : a = 2
      · rw [if_pos w2, if_pos w2]; exact ⟨_, rfl, rfl⟩
      · rw [if_neg w2, if_neg w2]
        by_cases w3 : a = 3
        · rw [if_pos w3, if_pos w3]; exact ⟨_, rfl, rfl⟩
        · rw [if_neg w3, if_neg w3]
          by_cases w4 : a = 4
          · rw [if_pos w4, if_pos w4]; exact ⟨_, rfl, rfl⟩
          · rw [if_neg w4, if_neg w4]
            by_cases w5 : a = 5
            · rw [if_pos w5, if_pos w5]; exact ⟨_, rfl, rfl⟩
            · rw [if_neg w5, if_neg w5]
              by_cases w6 : a = 6
              · rw [if_pos w6, if_pos w6]; exact ⟨_, rfl, rfl⟩
              · rw [if_neg w6, if_neg w6]
                by_cases w7 : a = 7
                · rw [if_pos w7, if_pos w7]; exact ⟨_, rfl, rfl⟩
                · rw [if_neg w7, if_neg w7]
                  by_cases w8 : a = 8
                  · rw [if_pos w8, if_pos w8]; exact ⟨_, rfl, rfl⟩
                  · rw [if_neg w8, if_neg w8]; exact ⟨_, rfl, rfl⟩
end
