section
/-! A TRACK IS STATED; WHAT IS ASKED -/
variable {X : Nat × (Nat → Int32)} {d : Nat} {s σ σ' τ : sm_S} {W W' : zW} {B : Nat × Nat} {n i k m j t u : Nat} {c v a b w : Int32} {e e' : zTn}
def stW (W : zW) (k : Nat) (what : Int32) : zW := if w_t W k ≠ 0 ∧ ¬ cBel (rowAt W (ixR (w_t W k))).1 what = 1 then wTk (wS W (fset (w_s W) k what)) (fset (w_t W) k 0) else wS W (fset (w_s W) k what)
theorem stW_ok (hW : WW W) (hs : ∃ s, s < 18 ∧ w = Int32.ofNat s) : WW (stW W k w) := by
  have h1 : WW (wS W (fset (w_s W) k w)) := by
    obtain ⟨a, b, c, d, e⟩ := hW
    refine ⟨a, b, c, fun j hj => ⟨?_, (d j hj).2⟩, e⟩
    show ∃ s, s < 18 ∧ fset (w_s W) k w j = Int32.ofNat s
    unfold fset
    by_cases q : j = k
    · rw [if_pos q]; exact hs
    · rw [if_neg q]; exact (d j hj).1
  unfold stW
  split
  · exact WW_tk (W := wS W (fset (w_s W) k w)) h1 VT_0
  · exact h1
theorem kd_24 : sm_callM X true (d + 1) 24 [vI w] σ = rI (if ¬ w < 0 ∧ w < 18 then 1 else 0) σ := by
  rw [f_X1_isKindOrAbility, q_X1_isKindOrAbility_0]
  by_cases h : w < 0
  · rw [if_pos h, if_neg (fun q => q.1 h)]
  · rw [if_neg h]
    by_cases k : w < 18
    · rw [if_pos k, if_pos ⟨h, k⟩]
    · rw [if_neg k, if_neg (fun q => k q.2)]
theorem CW_st (h : CW W B σ) : CW (wS W (fset (w_s W) k w)) B (sI σ 39 0 k w) := by
  obtain ⟨a, b, t, e, o, z⟩ := h
  refine ⟨a, b, fun j hj => ⟨?_, (t j hj).2⟩, e, o, z⟩
  show (if 39 = 39 ∧ 0 = 0 ∧ j = k then w else σ.1 39 0 j) = fset (w_s W) k w j
  unfold fset
  by_cases q : j = k
  · rw [if_pos ⟨rfl, rfl, q⟩, if_pos q]
  · rw [if_neg (fun y => q y.2.2), if_neg q]; exact (t j hj).1
theorem MW_st (h : MW W σ) : MW (wS W (fset (w_s W) k w)) (sI σ 90 0 k w) := by
  obtain ⟨a, b, t, e, o⟩ := h
  refine ⟨a, b, fun j hj => ⟨?_, (t j hj).2⟩, e, o⟩
  show (if 90 = 90 ∧ 0 = 0 ∧ j = k then w else σ.1 90 0 j) = fset (w_s W) k w j
  unfold fset
  by_cases q : j = k
  · rw [if_pos ⟨rfl, rfl, q⟩, if_pos q]
  · rw [if_neg (fun y => q y.2.2), if_neg q]; exact (t j hj).1
theorem c_state (hW : WW W) (h : CW W B σ) : if isTr a ∧ ¬ w < 0 ∧ w < 18 then ∃ σ', sm_callM X true (d + 4) 173 [vP (21, 0), vI a, vI w] σ = rI 1 σ' ∧ CW (stW W a.toNatClampNeg w) B σ' else sm_callM X true (d + 4) 173 [vP (21, 0), vI a, vI w] σ = rI 0 σ := by
  have a2 := hW.1.2.1
  rw [f_X11_state, q_X11_state_0, f_X2_setStated, q_X2_setStated_0, c_isTrack, bI_r]
  by_cases z : isTr a
  · obtain ⟨k, k1, k2, k3⟩ := isTr_n z
    rw [if_pos z, if_neg (show ¬ (1 : Int32) = 0 by decide), kd_24, bI_r]
    by_cases y : ¬ w < 0 ∧ w < 18
    · rw [if_pos y, if_neg (show ¬ (1 : Int32) = 0 by decide), if_pos ⟨z, y⟩, k3, k2, ix_nat (by omega) (by omega), ix_nat (by omega) (by omega)]
      have h1 := CW_st (k := k) (w := w) h
      have e40 : (sI σ 39 0 k w).2.2.1 40 0 k = pR (w_t W k) := (h.2.2.1 k k1).2
      rw [e40]
      unfold stW
      by_cases c0 : w_t W k = 0
      · rw [if_pos (pR_0.mpr c0), bI_r, if_neg (fun q => q.1 c0)]
        exact ⟨_, rfl, h1⟩
      · obtain ⟨n, j, n1, n2, -⟩ := VT_r (hW.2.2.2.1 k k1).2 (by decide) (by decide) c0
        have hp : pR (w_t W k) = (16, n) := by unfold pR; rw [if_neg c0, n2, ixR_rf (by omega)]
        have e16 : (sI σ 39 0 k w).1 16 n 0 = (rowAt W n).1 := (h.2.1.2.2.2.2.1 n n1).2.1
        have en : ixR (w_t W k) = n := by rw [n2, ixR_rf (by omega)]
        rw [if_neg (fun q => c0 (pR_0.mp q)), hp, rq_t, e16, c_isBelow, bI_r, en]
        rcases cBel_01 (rowAt W n).1 w with q | q
        · rw [if_pos q, ix_nat (by omega) (by omega), bI_r, if_pos ⟨c0, by rw [q]; decide⟩]
          have g2 := CW_track (k := k) (c := 0) h1
          exact ⟨_, rfl, g2⟩
        · rw [if_neg (by rw [q]; decide), bI_r, if_neg (fun p => p.2 q)]
          exact ⟨_, rfl, h1⟩
    · rw [if_neg y, if_pos rfl, bI_r, if_neg (fun q => y q.2)]; rfl
  · rw [if_neg z, if_pos rfl, bI_r, if_neg (fun q => z q.1)]; rfl
theorem m_state (hW : WW W) (h : MW W σ) : if isTr a ∧ ¬ w < 0 ∧ w < 18 then ∃ σ', sm_callM X true (d + 8) 286 [vP (23, 0), vI a, vI w] σ = rI 1 σ' ∧ MW (stW W a.toNatClampNeg w) σ' else sm_callM X true (d + 8) 286 [vP (23, 0), vI a, vI w] σ = rI 0 σ := by
  have a2 := hW.1.2.1
  rw [f_X13_state, q_X13_state_0, m_isTrack, bI_r]
  by_cases z : isTr a
  · obtain ⟨k, k1, k2, k3⟩ := isTr_n z
    rw [if_pos z, if_neg (show ¬ (1 : Int32) = 0 by decide)]
    by_cases y1 : w < 0
    · rw [if_pos y1, if_neg (fun q => q.2.1 y1)]
    · rw [if_neg y1]
      by_cases y2 : w < 18
      · have hs : ∃ s, s < 18 ∧ w = Int32.ofNat s := i32_nat (n := 18) (by decide) y1 y2
        rw [if_pos y2, if_pos ⟨z, y1, y2⟩, k3, k2, ix_nat (by omega) (by omega), ix_nat (by omega) (by omega)]
        have h1 := MW_st (k := k) (w := w) h
        have e91 : (sI σ 90 0 k w).1 91 0 k = mV 18 (w_t W k) := (h.2.2.1 k k1).2
        have hvt := (hW.2.2.2.1 k k1).2
        have hW1 : WW (wS W (fset (w_s W) k w)) := by
          obtain ⟨a, b, c, d, e⟩ := hW
          refine ⟨a, b, c, fun j hj => ⟨?_, (d j hj).2⟩, e⟩
          show ∃ s, s < 18 ∧ fset (w_s W) k w j = Int32.ofNat s
          unfold fset
          by_cases q : j = k
          · rw [if_pos q]; exact hs
          · rw [if_neg q]; exact (d j hj).1
        rw [e91]
        unfold stW
        by_cases c0 : w_t W k = 0
        · rw [if_pos ((mV_z hW hvt).mpr c0), if_neg (fun q => q.1 c0)]
          exact ⟨_, rfl, h1⟩
        · have et := m_takes (X := X) (d := d + 1) hW1 h1 (c := w_t W k) hvt k1
          have et : sm_callM X true (d + 7) 269 [vP (23, 0), vI (Int32.ofNat k), vI (mV 18 (w_t W k))] (sI σ 90 0 k w) = _ := et
          have hml : mayLay (wS W (fset (w_s W) k w)) k (w_t W k) ↔ cBel (rowAt W (ixR (w_t W k))).1 w = 1 := by
            show cBel (rowAt W (ixR (w_t W k))).1 (fset (w_s W) k w k) = 1 ↔ _
            unfold fset
            rw [if_pos rfl]
          rw [if_neg (fun q => c0 ((mV_z hW hvt).mp q)), ix_nat (by omega) (by omega), e91, et, bI_r]
          by_cases q : cBel (rowAt W (ixR (w_t W k))).1 w = 1
          · rw [if_pos (show w_t W k ≠ 0 ∧ mayLay (wS W (fset (w_s W) k w)) k (w_t W k) from ⟨c0, hml.mpr q⟩), if_neg (show ¬ (1 : Int32) = 0 by decide), if_neg (fun p => p.2 q)]
            exact ⟨_, rfl, h1⟩
          · rw [if_neg (show ¬ (w_t W k ≠ 0 ∧ mayLay (wS W (fset (w_s W) k w)) k (w_t W k)) from fun p => q (hml.mp p.2)), if_pos (show (0 : Int32) = 0 from rfl), ix_nat (by omega) (by omega), if_pos ⟨c0, q⟩]
            have g2 := MW_track (k := k) (c := 0) h1
            rw [mV_0] at g2
            exact ⟨_, rfl, g2⟩
      · rw [if_neg y2, if_neg (fun q => y2 q.2.2)]
  · rw [if_neg z, if_pos rfl, if_neg (fun q => z q.1)]
/-! what is told of the latest run -/
def CTo (o : Option (Nat → Int32)) (σ : sm_S) : Prop := match o with
  | none => σ.1 13 0 6 = 0
  | some T => CTd T σ
def MTo (o : Option (Nat → Int32)) (σ : sm_S) : Prop := match o with
  | none => σ.1 23 0 56 = 0
  | some T => MTd T σ
def toldV (o : Option (Nat → Int32)) (a : Int32) : Int32 := match o with
  | none => -1
  | some T => if ¬ a < 0 ∧ a < 7 then T a.toNatClampNeg else -1
theorem c_told {o : Option (Nat → Int32)} (h : CTo o σ) : sm_callM X true (d + 2) 171 [vP (21, 0), vI a] σ = rI (toldV o a) σ := by
  rw [f_X11_told, q_X11_told_0, f_X3_tellRun, q_X3_tellRun_0]
  cases o with
  | none =>
    have h : σ.1 13 0 6 = 0 := h
    rw [h, if_pos rfl, bI_r]; rfl
  | some T =>
    obtain ⟨h1, h2⟩ := h
    rw [h1, if_neg (show ¬ (1 : Int32) = 0 by decide)]
    rw [show toldV (some T) a = if ¬ a < 0 ∧ a < 7 then T a.toNatClampNeg else -1 from rfl]
    by_cases z : a < 0
    · rw [if_pos z, bI_r, if_neg (fun q => q.1 z)]
    · rw [if_neg z]
      by_cases y : a < 7
      · obtain ⟨k, k1, rfl⟩ := i32_nat (n := 7) (by decide) z y
        rw [if_pos y, ix7 k1, bI_r, if_pos ⟨z, y⟩, i_tn (by omega), h2 k k1]
      · rw [if_neg y, bI_r, if_neg (fun q => y q.2)]
theorem m_told {o : Option (Nat → Int32)} (h : MTo o σ) : sm_callM X true (d + 1) 284 [vP (23, 0), vI a] σ = rI (toldV o a) σ := by
  rw [f_X13_told, q_X13_told_0]
  cases o with
  | none =>
    have h : σ.1 23 0 56 = 0 := h
    rw [h, if_pos rfl]; rfl
  | some T =>
    obtain ⟨h1, h2, h3, h4, h5, h6, h7, h8⟩ := h
    rw [h1, if_neg (show ¬ (1 : Int32) = 0 by decide), h2, h3, h4, h5, h6, h7, h8]
    rw [show toldV (some T) a = if ¬ a < 0 ∧ a < 7 then T a.toNatClampNeg else -1 from rfl]
    by_cases z : ¬ a < 0 ∧ a < 7
    · obtain ⟨k, k1, rfl⟩ := i32_nat (n := 7) (by decide) z.1 z.2
      rw [if_pos z, i_tn (by omega)]
      have hk : k = 0 ∨ k = 1 ∨ k = 2 ∨ k = 3 ∨ k = 4 ∨ k = 5 ∨ k = 6 := by omega
      rcases hk with rfl | rfl | rfl | rfl | rfl | rfl | rfl <;> rfl
    · have hne : ∀ k, k < 7 → a ≠ Int32.ofNat k := fun k hk q => z (by
        rw [q]
        exact ⟨i_nn (by omega), by rw [show (7 : Int32) = Int32.ofNat 7 from rfl, i_lt (by omega) (by omega)]; exact hk⟩)
      rw [if_neg z, if_neg (show ¬ a = 0 from hne 0 (by decide)), if_neg (show ¬ a = 1 from hne 1 (by decide)), if_neg (show ¬ a = 2 from hne 2 (by decide)), if_neg (show ¬ a = 3 from hne 3 (by decide)), if_neg (show ¬ a = 4 from hne 4 (by decide)), if_neg (show ¬ a = 5 from hne 5 (by decide)), if_neg (show ¬ a = 6 from hne 6 (by decide))]
/-! what was said; vehicles -/
theorem q_said (hW : WW W) (h : CW W B σ) (hm : MW W τ) : ∃ y, sm_callM X true (d + 1) 172 [vP (21, 0), vI a] σ = rI y σ ∧ sm_callM X true (d + 1) 285 [vP (23, 0), vI a] τ = rI y τ := by
  have hd := hW.1.2.2.2.2.2
  rw [f_X11_said, q_X11_said_0, f_X13_said, q_X13_said_0, h.2.2.2.2.1.2.2.1, hm.2.2.2.2.2.2.1]
  by_cases z : a < 0
  · rw [if_pos z, if_pos z]; exact ⟨_, rfl, rfl⟩
  · rw [if_neg z, if_neg z]
    by_cases y : a < Int32.ofNat (w_d W).length
    · obtain ⟨k, k1, rfl⟩ := i32_nat (by omega) z y
      obtain ⟨v, hv⟩ : ∃ v, (w_d W)[k]? = some v := ⟨_, List.getElem?_eq_getElem k1⟩
      rw [if_pos y, if_pos y, ix_nat (by omega) (by omega), ix_nat (by omega) (by omega), h.2.2.2.2.1.2.2.2 k v hv, hm.2.2.2.2.2.2.2 k v hv]
      exact ⟨_, rfl, rfl⟩
    · rw [if_neg y, if_neg y]; exact ⟨_, rfl, rfl⟩
theorem q_veh (hW : WW W) (h : CW W B σ) (hm : MW W τ) : ∃ y, sm_callM X true (d + 4) 175 [vP (21, 0), vI a, vI w] σ = rI y σ ∧ sm_callM X true (d + 4) 288 [vP (23, 0), vI a, vI w] τ = rI y τ := by
  have a1 := hW.1.1
  have no : sm_go (sm_ZZ X) sm_PP true (sm_callM X true (d + 3)) 175 28 [vP (21, 0), vI a, vI w, vU] [vP (0, 0)] σ = rI (-1) σ := by rw [q_X11_vehicle_28, if_pos rfl]
  rw [f_X11_vehicle, q_X11_vehicle_0, f_X13_vehicle, q_X13_vehicle_0, h.1.1, hm.1.1]
  by_cases z : a < 0
  · rw [if_pos z, if_pos z, no]; exact ⟨_, rfl, rfl⟩
  · rw [if_neg z, if_neg z]
    by_cases y : a < Int32.ofNat (w_v W).length
    · obtain ⟨v, v1, rfl⟩ := i32_nat (by omega) z y
      rw [if_pos y, if_pos y, ix_nat (by omega) (by omega), (h.1.2.2.1 v v1).1, q_X11_vehicle_28, if_neg n19, if_pos rfl, f_X9_tell, q_X9_tell_0]
      by_cases u : ¬ w < 0 ∧ w < 10
      · obtain ⟨k, k1, rfl⟩ := i32_nat (n := 10) (by decide) u.1 u.2
        obtain ⟨h0, h2, h3, h4, h5, h6, h7⟩ := mv_f hm v1
        have cf : ∀ f, f < 9 → sm_callM X true (d + 2) 149 [vP (19, v), vI (Int32.ofNat f)] σ = rI (vFld (vehAt W v) f) σ := fun f hf => c_field (X := X) (d := d) hW h v1 hf
        have go : ∀ g, 9 * v + g < 2700 → ∀ (K : Nat → sm_R), sm_ix (9 * Int32.ofNat v + Int32.ofNat g) 2700 K = K (9 * v + g) := fun g hg K => by
          rw [i9, ix_nat hg (by omega)]
        have m3 := m_mass (X := X) (d := d + 2) hW hm v1
        have m4 := m_grip (X := X) (d := d + 2) hW hm v1
        have m5 := m_pull (X := X) (d := d + 2) hW hm v1
        have n9 : ¬ (9 : Int32) < Int32.ofNat k := by rw [show (9 : Int32) = Int32.ofNat 9 from rfl, i_lt (by omega) (by omega)]; omega
        rw [if_neg u.1, if_neg n9]
        have hk : k = 0 ∨ k = 1 ∨ k = 2 ∨ k = 3 ∨ k = 4 ∨ k = 5 ∨ k = 6 ∨ k = 7 ∨ k = 8 ∨ k = 9 := by omega
        rcases hk with rfl | rfl | rfl | rfl | rfl | rfl | rfl | rfl | rfl | rfl
        · rw [if_pos (show Int32.ofNat 0 = 0 from rfl), bI_r, if_pos (show Int32.ofNat 0 = 0 from rfl), ix_nat (by omega) (by omega), (h.1.2.2.1 v v1).2.1, h0]
          exact ⟨_, rfl, rfl⟩
        all_goals rw [if_neg (by decide), i_pred, cf _ (by decide), bI_r]
        · show ∃ y, rI (vFld (vehAt W v) 0) σ = rI y σ ∧ sm_ix (9 * Int32.ofNat v + Int32.ofNat 0) 2700 (fun z => rI (τ.1 75 0 z) τ) = rI y τ
          rw [go 0 (by omega), h2]; exact ⟨_, rfl, rfl⟩
        · show ∃ y, rI (vFld (vehAt W v) 1 - 1) σ = rI y σ ∧ sm_ix (9 * Int32.ofNat v + Int32.ofNat 1) 2700 (fun z => rI (τ.1 75 0 z - 1) τ) = rI y τ
          rw [go 1 (by omega), h3]; exact ⟨_, rfl, rfl⟩
        · show ∃ y, rI (vFld (vehAt W v) 2) σ = rI y σ ∧ sm_bI (sm_callM X true (d + 3) 249 [vP (23, 0), vI (Int32.ofNat v)] τ) sm_tw (fun y s => rI y s) = rI y τ
          rw [m3]; exact ⟨_, rfl, rfl⟩
        · show ∃ y, rI (vFld (vehAt W v) 3) σ = rI y σ ∧ sm_bI (sm_callM X true (d + 3) 250 [vP (23, 0), vI (Int32.ofNat v)] τ) sm_tw (fun y s => rI y s) = rI y τ
          rw [m4]; exact ⟨_, rfl, rfl⟩
        · show ∃ y, rI (vFld (vehAt W v) 4) σ = rI y σ ∧ sm_bI (sm_callM X true (d + 3) 251 [vP (23, 0), vI (Int32.ofNat v)] τ) sm_tw (fun y s => rI y s) = rI y τ
          rw [m5]; exact ⟨_, rfl, rfl⟩
        · show ∃ y, rI (vFld (vehAt W v) 5) σ = rI y σ ∧ sm_ix (9 * Int32.ofNat v + Int32.ofNat 5) 2700 (fun z => rI (τ.1 75 0 z) τ) = rI y τ
          rw [go 5 (by omega), h4]; exact ⟨_, rfl, rfl⟩
        · show ∃ y, rI (vFld (vehAt W v) 6) σ = rI y σ ∧ sm_ix (9 * Int32.ofNat v + Int32.ofNat 6) 2700 (fun z => rI (τ.1 75 0 z) τ) = rI y τ
          rw [go 6 (by omega), h5]; exact ⟨_, rfl, rfl⟩
        · show ∃ y, rI (vFld (vehAt W v) 7) σ = rI y σ ∧ sm_ix (9 * Int32.ofNat v + Int32.ofNat 7) 2700 (fun z => rI (τ.1 75 0 z) τ) = rI y τ
          rw [go 7 (by omega), h6]; exact ⟨_, rfl, rfl⟩
        · show ∃ y, rI (vFld (vehAt W v) 8) σ = rI y σ ∧ sm_ix (9 * Int32.ofNat v + Int32.ofNat 8) 2700 (fun z => rI (τ.1 75 0 z) τ) = rI y τ
          rw [go 8 (by omega), h7]; exact ⟨_, rfl, rfl⟩
      · have hne : ∀ k, k < 10 → w ≠ Int32.ofNat k := fun k hk q => u (by
          rw [q]
          exact ⟨i_nn (by omega), by rw [show (10 : Int32) = Int32.ofNat 10 from rfl, i_lt (by omega) (by omega)]; exact hk⟩)
        have hc : w < 0 ∨ 9 < w := by
          by_cases q : w < 0
          · exact Or.inl q
          · right
            refine Decidable.byContradiction (fun p => u ⟨q, ?_⟩)
            rw [Int32.lt_iff_toInt_lt] at p ⊢
            rw [show (9 : Int32).toInt = 9 from rfl] at p
            rw [show (10 : Int32).toInt = 10 from rfl]; omega
        by_cases q : w < 0
        · rw [if_pos q, bI_r, if_neg (show ¬ w = 0 from hne 0 (by decide)), if_neg (show ¬ w = 1 from hne 1 (by decide)), if_neg (show ¬ w = 2 from hne 2 (by decide)), if_neg (show ¬ w = 3 from hne 3 (by decide)), if_neg (show ¬ w = 4 from hne 4 (by decide)), if_neg (show ¬ w = 5 from hne 5 (by decide)), if_neg (show ¬ w = 6 from hne 6 (by decide)), if_neg (show ¬ w = 7 from hne 7 (by decide)), if_neg (show ¬ w = 8 from hne 8 (by decide)), if_neg (show ¬ w = 9 from hne 9 (by decide))]; exact ⟨_, rfl, rfl⟩
        · rw [if_neg q, if_pos (hc.resolve_left q), bI_r, if_neg (show ¬ w = 0 from hne 0 (by decide)), if_neg (show ¬ w = 1 from hne 1 (by decide)), if_neg (show ¬ w = 2 from hne 2 (by decide)), if_neg (show ¬ w = 3 from hne 3 (by decide)), if_neg (show ¬ w = 4 from hne 4 (by decide)), if_neg (show ¬ w = 5 from hne 5 (by decide)), if_neg (show ¬ w = 6 from hne 6 (by decide)), if_neg (show ¬ w = 7 from hne 7 (by decide)), if_neg (show ¬ w = 8 from hne 8 (by decide)), if_neg (show ¬ w = 9 from hne 9 (by decide))]; exact ⟨_, rfl, rfl⟩
    · rw [if_neg y, if_neg y, no]; exact ⟨_, rfl, rfl⟩
end
