section
/-! THE REFERENCE's YARDS STAND WHERE THE PURE YARDS STAND -/
variable {X : Nat × (Nat → Int32)} {d : Nat} {s σ σ' : sm_S} {W W' : zW} {v n i k f m : Nat} {c t x u : Int32}
def rwl (W : zW) : List Nat := (w_r W).map (fun r => r.2.length)
/-- where a row's places begin -/
def frm (W : zW) (n : Nat) : Nat := ((rwl W).take n).sum
theorem rwl_len : (rwl W).length = (w_r W).length := List.length_map _
theorem rwl_at (h : n < (w_r W).length) : (rwl W)[n]? = some (rowAt W n).2.length := by
  unfold rwl rowAt
  rw [List.getElem?_map, List.getElem?_eq_getElem h, List.getD_eq_getElem?_getD, List.getElem?_eq_getElem h]; rfl
theorem frm_s (h : n < (w_r W).length) : frm W (n + 1) = frm W n + (rowAt W n).2.length := by
  unfold frm
  rw [List.take_add_one, rwl_at h, List.sum_append]
  show _ + ((rowAt W n).2.length + 0) = _
  omega
theorem frm_mono : ∀ (k n : Nat), n + k ≤ (w_r W).length → frm W n ≤ frm W (n + k)
  | 0, _, _ => Nat.le_refl _
  | k + 1, n, h => by
    have h1 := frm_mono k n (by omega)
    have h2 := frm_s (W := W) (n := n + k) (by omega)
    rw [show n + (k + 1) = n + k + 1 from rfl, h2]; omega
theorem frm_all : frm W (w_r W).length = nSpots W := by
  unfold frm nSpots
  rw [← rwl_len (W := W), List.take_length]; rfl
theorem frm_le (h : n < (w_r W).length) : frm W n + (rowAt W n).2.length ≤ nSpots W := by
  rw [← frm_s h, ← frm_all]
  have := frm_mono (W := W) ((w_r W).length - (n + 1)) (n + 1) (by omega)
  rw [show n + 1 + ((w_r W).length - (n + 1)) = (w_r W).length by omega] at this
  exact this
theorem frm_lt (h : m < (w_r W).length) (hn : n < m) : frm W n + (rowAt W n).2.length ≤ frm W m := by
  rw [← frm_s (by omega)]
  have := frm_mono (W := W) (m - (n + 1)) (n + 1) (by omega)
  rw [show n + 1 + (m - (n + 1)) = m by omega] at this
  exact this
/-- places of rows lie apart -/
theorem frm_ne {j : Nat} (hn : n < (w_r W).length) (hm : m < (w_r W).length) (hi : i < (rowAt W n).2.length) (hj : j < (rowAt W m).2.length) (h : frm W n + i = frm W m + j) : n = m ∧ i = j := by
  rcases Nat.lt_trichotomy n m with q | q | q
  · have := frm_lt hm q; omega
  · subst q; exact ⟨rfl, by omega⟩
  · have := frm_lt hn q; omega
theorem rwl_set : rwl (setR W v i x) = rwl W := by
  unfold rwl
  show ((w_r W).modify v _).map _ = _
  rw [map_mod (h := fun r : zRw => r.2.length) (g := fun e : zRw => (e.1, e.2.set i x)) (fun e => List.length_set)]
theorem frm_set : frm (setR W v i x) n = frm W n := by unfold frm; rw [rwl_set]
theorem frm_new {e : zRw} (h : n ≤ (w_r W).length) : frm (wR W (w_r W ++ [e])) n = frm W n := by
  unfold frm rwl
  show ((((w_r W ++ [e]).map (fun r : zRw => r.2.length))).take n).sum = _
  rw [List.map_append, List.take_append_of_le_length (by rw [List.length_map]; exact h)]
def MWv (W : zW) (σ : sm_S) : Prop := σ.1 23 0 24 = Int32.ofNat (w_v W).length ∧ (∀ v, v < (w_v W).length → σ.1 74 0 v = (vehAt W v).1 ∧ ∀ f, isF f → σ.1 75 0 (9 * v + f) = (vehAt W v).2 f) ∧ ∀ j, 9 * (w_v W).length ≤ j → σ.1 75 0 j = 0
def MWr (W : zW) (σ : sm_S) : Prop := σ.1 23 0 25 = Int32.ofNat (w_r W).length ∧ σ.1 23 0 26 = Int32.ofNat (nSpots W) ∧ (∀ n, n < (w_r W).length → σ.1 76 0 n = (rowAt W n).1 ∧ σ.1 77 0 n = Int32.ofNat (frm W n) ∧ σ.1 78 0 n = Int32.ofNat (rowAt W n).2.length ∧ ∀ i, i < (rowAt W n).2.length → σ.1 79 0 (frm W n + i) = (rowAt W n).2.getD i 0) ∧ ∀ j, nSpots W ≤ j → σ.1 79 0 j = 0
def MWt (W : zW) (σ : sm_S) : Prop := ∀ k, k < 8 → σ.1 90 0 k = w_s W k ∧ σ.1 91 0 k = mV 18 (w_t W k)
def MWn (W : zW) (σ : sm_S) : Prop := σ.1 23 0 60 = Int32.ofNat (w_n W).length ∧ ∀ (t : Nat) (e : zTn), (w_n W)[t]? = some e → σ.1 92 0 t = Int32.ofNat (1001 + e.1) ∧ σ.1 93 0 t = Int32.ofNat e.2.1 ∧ σ.1 94 0 t = e.2.2.1 ∧ σ.1 96 0 t = e.2.2.2.1 ∧ σ.1 95 0 t = e.2.2.2.2
def MWo (W : zW) (σ : sm_S) : Prop := σ.1 23 0 61 = w_c W ∧ σ.1 23 0 27 = Int32.ofNat (w_f W) ∧ σ.1 23 0 28 = Int32.ofNat (w_d W).length ∧ ∀ (i : Nat) (y : Int32), (w_d W)[i]? = some y → σ.1 80 0 i = y
def MW (W : zW) (σ : sm_S) : Prop := MWv W σ ∧ MWr W σ ∧ MWt W σ ∧ MWn W σ ∧ MWo W σ
theorem MW_i (hI : ∀ t i k, ((t = 23 ∧ ((24 ≤ k ∧ k ≤ 28) ∨ k = 60 ∨ k = 61)) ∨ (74 ≤ t ∧ t ≤ 80) ∨ (90 ≤ t ∧ t ≤ 96)) → σ'.1 t i k = σ.1 t i k) (h : MW W σ) : MW W σ' := by
  obtain ⟨⟨a1, a2, a3⟩, ⟨b1, b2, b3, b4⟩, t, ⟨n1, n2⟩, ⟨o1, o2, o3, o4⟩⟩ := h
  refine ⟨⟨?_, fun v hv => ?_, fun j hj => ?_⟩, ⟨?_, ?_, fun n hn => ?_, fun j hj => ?_⟩, fun k hk => ⟨?_, ?_⟩, ⟨?_, fun t e he => ?_⟩, ?_, ?_, ?_, fun i y hi => ?_⟩
  · rw [hI _ _ _ (by decide)]; exact a1
  · obtain ⟨k1, k2⟩ := a2 v hv
    exact ⟨by rw [hI _ _ _ (by omega)]; exact k1, fun f hf => by rw [hI _ _ _ (by omega)]; exact k2 f hf⟩
  · rw [hI _ _ _ (by omega)]; exact a3 j hj
  · rw [hI _ _ _ (by decide)]; exact b1
  · rw [hI _ _ _ (by decide)]; exact b2
  · obtain ⟨k1, k2, k3, k4⟩ := b3 n hn
    exact ⟨by rw [hI _ _ _ (by omega)]; exact k1, by rw [hI _ _ _ (by omega)]; exact k2, by rw [hI _ _ _ (by omega)]; exact k3, fun i hi => by rw [hI _ _ _ (by omega)]; exact k4 i hi⟩
  · rw [hI _ _ _ (by omega)]; exact b4 j hj
  · rw [hI _ _ _ (by omega)]; exact (t k hk).1
  · rw [hI _ _ _ (by omega)]; exact (t k hk).2
  · rw [hI _ _ _ (by decide)]; exact n1
  · obtain ⟨k1, k2, k3, k4, k5⟩ := n2 t e he
    exact ⟨by rw [hI _ _ _ (by omega)]; exact k1, by rw [hI _ _ _ (by omega)]; exact k2, by rw [hI _ _ _ (by omega)]; exact k3, by rw [hI _ _ _ (by omega)]; exact k4, by rw [hI _ _ _ (by omega)]; exact k5⟩
  · rw [hI _ _ _ (by decide)]; exact o1
  · rw [hI _ _ _ (by decide)]; exact o2
  · rw [hI _ _ _ (by decide)]; exact o3
  · rw [hI _ _ _ (by omega)]; exact o4 i y hi
/-! references as the reference tells them -/
theorem cRef_n (h : cRef t = 1) : t ≠ 36 ∧ t ≠ 38 := by
  constructor
  · intro z; rw [z] at h; exact absurd h (by decide)
  · intro z; rw [z] at h; exact absurd h (by decide)
theorem mV_i {t : Int32} (h : t = 36) : mV t c = c := by unfold mV; rw [if_pos (Or.inl h)]
theorem mV_r1 {n : Nat} (hr : cRef t = 1) (h : n < 1000) : mV t (rfR n) = Int32.ofNat (1001 + n) := mV_row h (cRef_n hr).1 (cRef_n hr).2
theorem mV_z (hW : WW W) (hv : VT W t c) : mV t c = 0 ↔ c = 0 := by
  have a1 := hW.1.1
  have a2 := hW.1.2.1
  unfold mV
  by_cases h : t = 36 ∨ t = 38
  · rw [if_pos h]
  · rw [if_neg h]
    rcases hv with q | q | q | ⟨q0, v, k, q1, q2, -⟩ | ⟨q0, q00, n, k, q1, q2, -⟩
    · exact absurd (Or.inl q) h
    · exact absurd (Or.inr q) h
    · rw [q]; decide
    · rw [q2, if_neg (rfV_pos (by omega)).1]
    · rw [q2, if_pos (rfR_neg (by omega))]
      constructor
      · intro z
        exfalso
        unfold rfR at z
        rw [Int32.sub_neg, show (1000 : Int32) = Int32.ofNat 1000 from rfl, ← Int32.ofNat_add, show (0 : Int32) = Int32.ofNat 0 from rfl, i_eq (by omega) (by omega)] at z
        omega
      · intro z; exact absurd z (rfR_ne (by omega))
theorem m_typeOf (hW : WW W) (h : MW W σ) (hv : VT W t c) (hr : cRef t = 1) (hc : c ≠ 0) : sm_callM X true (d + 1) 246 [vP (23, 0), vI (mV t c)] σ = rI (tyOf W c) σ := by
  have a1 := hW.1.1
  have a2 := hW.1.2.1
  rw [f_X13_typeOf, q_X13_typeOf_0]
  rcases VT_ref hv hr hc with ⟨v, k, h1, rfl, -⟩ | ⟨n, k, h1, rfl, -⟩
  · rw [mV_veh (by omega), show (1001 : Int32) = Int32.ofNat 1001 from rfl, if_pos (by rw [i_lt (by omega) (by omega)]; omega), i_pred, ix_nat (by omega) (by omega), (h.1.2.1 v h1).1, tyOf_v (by omega)]
  · rw [mV_r1 hr (by omega), show (1001 : Int32) = Int32.ofNat 1001 from rfl, if_neg (by rw [i_lt (by omega) (by omega)]; omega), i_sub, ix_nat (by omega) (by omega), (h.2.1.2.2.1 n h1).1, tyOf_r (by omega)]
theorem tyOf_n (hW : WW W) (hv : VT W t c) (hr : cRef t = 1) (hc : c ≠ 0) : ∃ n, n < 36 ∧ tyOf W c = Int32.ofNat n := by
  have a1 := hW.1.1
  have a2 := hW.1.2.1
  rcases VT_ref hv hr hc with ⟨v, k, h1, rfl, h2, h3⟩ | ⟨n, k, h1, rfl, h2, h3⟩
  · exact ⟨k, by omega, by rw [tyOf_v (by omega), h3]⟩
  · exact ⟨18 + k, by omega, by rw [tyOf_r (by omega), h3, o18]⟩
theorem m_isOf (hW : WW W) (h : MW W σ) (hv : VT W t c) (hr : cRef t = 1) (hu : ∃ m, m < 36 ∧ u = Int32.ofNat m) : sm_callM X true (d + 5) 248 [vP (23, 0), vI (mV t c), vI u] σ = rI (if c ≠ 0 ∧ cBel (tyOf W c) u = 1 then 1 else 0) σ := by
  rw [f_X13_isOf, q_X13_isOf_0]
  by_cases z : c = 0
  · rw [if_pos ((mV_z hW hv).mpr z), if_neg (fun y => y.1 z)]
  · have e1 := m_typeOf (X := X) (d := d + 3) hW h hv hr z
    have e1 : sm_callM X true (d + 4) 246 [vP (23, 0), vI (mV t c)] σ = rI (tyOf W c) σ := e1
    obtain ⟨n, n1, n2⟩ := tyOf_n hW hv hr z
    obtain ⟨m, m1, rfl⟩ := hu
    rw [if_neg (fun y => z ((mV_z hW hv).mp y)), e1, bI_r, n2, m_fits n _ (by omega), bI_r, ← kin_bel n n1 m m1]
    rcases cBel_01 (Int32.ofNat n) (Int32.ofNat m) with w | w
    · rw [if_pos w, if_neg (fun y => by rw [w] at y; exact absurd y.2 (by decide))]
    · rw [if_neg (by rw [w]; decide), if_pos ⟨z, w⟩]
theorem i9 {v f : Nat} : 9 * Int32.ofNat v + Int32.ofNat f = Int32.ofNat (9 * v + f) := by
  rw [show (9 : Int32) = Int32.ofNat 9 from rfl, ← Int32.ofNat_mul, ← Int32.ofNat_add]
theorem mv_f (h : MW W σ) (hv : v < (w_v W).length) : σ.1 74 0 v = (vehAt W v).1 ∧ σ.1 75 0 (9 * v + 0) = (vehAt W v).2 0 ∧ σ.1 75 0 (9 * v + 1) = (vehAt W v).2 1 ∧ σ.1 75 0 (9 * v + 5) = (vehAt W v).2 5 ∧ σ.1 75 0 (9 * v + 6) = (vehAt W v).2 6 ∧ σ.1 75 0 (9 * v + 7) = (vehAt W v).2 7 ∧ σ.1 75 0 (9 * v + 8) = (vehAt W v).2 8 := by
  obtain ⟨h2, h4⟩ := h.1.2.1 v hv
  exact ⟨h2, h4 0 (by decide), h4 1 (by decide), h4 5 (by decide), h4 6 (by decide), h4 7 (by decide), h4 8 (by decide)⟩
theorem k13 {k : Nat} (h : k < 13) : k = 0 ∨ k = 1 ∨ k = 2 ∨ k = 3 ∨ k = 4 ∨ k = 5 ∨ k = 6 ∨ k = 7 ∨ k = 8 ∨ k = 9 ∨ k = 10 ∨ k = 11 ∨ k = 12 := by omega
theorem m_mass (hW : WW W) (h : MW W σ) (hv : v < (w_v W).length) : sm_callM X true (d + 1) 249 [vP (23, 0), vI (Int32.ofNat v)] σ = rI (vMass (vehAt W v)) σ := by
  obtain ⟨h0, -, -, h5, h6, h7, h8⟩ := mv_f h hv
  obtain ⟨⟨k, k1, k2, -⟩, -⟩ := hW.2.1 v hv
  have a1 := hW.1.1
  have e5 : (9 : Int32) * Int32.ofNat v + 5 = Int32.ofNat (9 * v + 5) := i9
  have e6 : (9 : Int32) * Int32.ofNat v + 6 = Int32.ofNat (9 * v + 6) := i9
  have e7 : (9 : Int32) * Int32.ofNat v + 7 = Int32.ofNat (9 * v + 7) := i9
  have e8 : (9 : Int32) * Int32.ofNat v + 8 = Int32.ofNat (9 * v + 8) := i9
  rw [f_X13_mass, q_X13_mass_0, e5, e8, ix_nat (by omega) (by omega), ix_nat (by omega) (by omega), ix_nat (by omega) (by omega), h0, h5, h8, e6, e7, ix_nat (by omega) (by omega), ix_nat (by omega) (by omega), h6, h7, k2]
  unfold vMass
  rw [k2]
  rcases k13 k1 with rfl | rfl | rfl | rfl | rfl | rfl | rfl | rfl | rfl | rfl | rfl | rfl | rfl
  · rfl
  · rfl
  · rfl
  · rfl
  · rfl
  · rfl
  · rfl
  · rfl
  · rfl
  · rfl
  · rfl
  · show (if (vehAt W v).2 6 < 0 then rI (15 + 2 * (vehAt W v).2 5 + 1) σ else rI (15 + 2 * (vehAt W v).2 5 + 0) σ) = rI (15 + 2 * (vehAt W v).2 5 + (if (vehAt W v).2 6 < 0 then 1 else 0)) σ
    split <;> rfl
  · rfl
theorem m_grip (hW : WW W) (h : MW W σ) (hv : v < (w_v W).length) : sm_callM X true (d + 1) 250 [vP (23, 0), vI (Int32.ofNat v)] σ = rI (vGrip (vehAt W v)) σ := by
  obtain ⟨h0, -⟩ := mv_f h hv
  obtain ⟨⟨k, k1, k2, -⟩, -⟩ := hW.2.1 v hv
  have a1 := hW.1.1
  rw [f_X13_grip, q_X13_grip_0, ix_nat (by omega) (by omega), h0, k2]
  unfold vGrip
  rw [k2]
  rcases k13 k1 with rfl | rfl | rfl | rfl | rfl | rfl | rfl | rfl | rfl | rfl | rfl | rfl | rfl <;> rfl
theorem m_pull (hW : WW W) (h : MW W σ) (hv : v < (w_v W).length) : sm_callM X true (d + 1) 251 [vP (23, 0), vI (Int32.ofNat v)] σ = rI (vPull (vehAt W v)) σ := by
  obtain ⟨h0, -, -, -, -, -, h8⟩ := mv_f h hv
  obtain ⟨⟨k, k1, k2, -⟩, -⟩ := hW.2.1 v hv
  have a1 := hW.1.1
  have e8 : (9 : Int32) * Int32.ofNat v + 8 = Int32.ofNat (9 * v + 8) := i9
  rw [f_X13_pull, q_X13_pull_0, ix_nat (by omega) (by omega), h0, e8, ix_nat (by omega) (by omega), h8, k2]
  unfold vPull
  rw [k2]
  rcases k13 k1 with rfl | rfl | rfl | rfl | rfl | rfl | rfl | rfl | rfl | rfl | rfl | rfl | rfl <;> rfl
theorem mw_field (hW : WW W) (h : MW W σ) (hv : v < (w_v W).length) (hf : f < 9) : sm_callM X true (d + 2) 252 [vP (23, 0), vI (Int32.ofNat v), vI (Int32.ofNat f)] σ = rI (vFld (vehAt W v) f) σ := by
  obtain ⟨h0, h2, h3, h4, h5, h6, h7⟩ := mv_f h hv
  have a1 := hW.1.1
  rw [f_X13_fieldOf_, q_X13_fieldOf__0]
  have hk : f = 0 ∨ f = 1 ∨ f = 2 ∨ f = 3 ∨ f = 4 ∨ f = 5 ∨ f = 6 ∨ f = 7 ∨ f = 8 := by omega
  have go : ∀ g, 9 * v + g < 2700 → σ.1 75 0 (9 * v + g) = vFld (vehAt W v) g → sm_ix (9 * Int32.ofNat v + Int32.ofNat g) 2700 (fun z7 => rI (σ.1 75 0 z7) σ) = rI (vFld (vehAt W v) g) σ := fun g hg e => by
    rw [i9, ix_nat hg (by omega), e]
  rcases hk with rfl | rfl | rfl | rfl | rfl | rfl | rfl | rfl | rfl
  · exact go 0 (by omega) h2
  · exact go 1 (by omega) h3
  · show sm_bI (sm_callM X true (d + 1) 249 [vP (23, 0), vI (Int32.ofNat v)] σ) sm_tw (fun y1 s2 => rI y1 s2) = _
    rw [m_mass hW h hv]; rfl
  · show sm_bI (sm_callM X true (d + 1) 250 [vP (23, 0), vI (Int32.ofNat v)] σ) sm_tw (fun y1 s2 => rI y1 s2) = _
    rw [m_grip hW h hv]; rfl
  · show sm_bI (sm_callM X true (d + 1) 251 [vP (23, 0), vI (Int32.ofNat v)] σ) sm_tw (fun y1 s2 => rI y1 s2) = _
    rw [m_pull hW h hv]; rfl
  · exact go 5 (by omega) h4
  · exact go 6 (by omega) h5
  · exact go 7 (by omega) h6
  · exact go 8 (by omega) h7
/-! sums over a row -/
theorem m_asV : sm_callM X true (d + 1) 247 [vI x] σ = rI (x - 1) σ := by rw [f_X13_asVehicle, q_X13_asVehicle_0]
theorem rfV_1 : rfV v - 1 = Int32.ofNat v := i_pred
theorem cell_m (hW : WW W) (h : MW W σ) (hn : n < (w_r W).length) (hi : i < (rowAt W n).2.length) {g : Nat → sm_R} : sm_ix (Int32.ofNat (frm W n) + Int32.ofNat i) 2000 g = g (frm W n + i) := by
  have a3 := hW.1.2.2.1
  have := frm_le hn
  rw [i_add, ix_nat (by omega) (by omega)]
theorem m_mass_go (hW : WW W) (h : MW W σ) (hn : n < (w_r W).length) : ∀ (m i : Nat) (a : Int32) (d4 : sm_V), i + m = (rowAt W n).2.length → sm_go (sm_ZZ X) sm_PP true (sm_callM X true (d + 1)) 273 4 [vP (23, 0), vI (Int32.ofNat n), vI a, vI (Int32.ofNat i), d4] [] σ = rI (sumF W 2 ((rowAt W n).2.drop i) a) σ
  | 0, i, a, d4, hi => by
    obtain ⟨k, -, -, hl, -⟩ := hW.2.2.1 n hn
    have a2 := hW.1.2.1
    rw [q_X13_massOf_4, ix_nat (by omega) (by omega), (h.2.1.2.2.1 n hn).2.2.1, if_neg (by rw [i_lt (by omega) (by omega)]; omega), List.drop_of_length_le (by omega)]
    rfl
  | m + 1, i, a, d4, hi => by
    obtain ⟨k, -, -, hl, -⟩ := hW.2.2.1 n hn
    have a1 := hW.1.1
    have a2 := hW.1.2.1
    obtain ⟨k1, k2, k3, k4⟩ := h.2.1.2.2.1 n hn
    rw [q_X13_massOf_4, ix_nat (by omega) (by omega), k3, if_pos (by rw [i_lt (by omega) (by omega)]; omega), ix_nat (by omega) (by omega), k2, cell_m hW h hn (by omega), k4 i (by omega), getD_drop (by omega), i_s]
    by_cases z : (rowAt W n).2.getD i 0 = 0
    · rw [if_pos z, Int32.add_zero, m_mass_go hW h hn m (i + 1) a _ (by omega)]
      show _ = rI (sumF W 2 _ (if _ = 0 then a else _)) σ
      rw [if_pos z]
    · obtain ⟨v, v1, v2, v3, v4⟩ := cell_ok hW hn (by omega) z
      rw [if_neg z, m_asV, bI_r, v2, rfV_1, m_mass hW h v1, bI_r, m_mass_go hW h hn m (i + 1) _ _ (by omega)]
      show _ = rI (sumF W 2 _ (if _ = 0 then a else _)) σ
      rw [if_neg (rfV_pos (by omega)).2.1, v3]; rfl
theorem m_massOf (hW : WW W) (h : MW W σ) (hn : n < (w_r W).length) : sm_callM X true (d + 2) 273 [vP (23, 0), vI (Int32.ofNat n)] σ = rI (sumF W 2 (rowAt W n).2 0) σ := by
  rw [f_X13_massOf, q_X13_massOf_0]
  exact m_mass_go hW h hn _ 0 0 _ (Nat.zero_add _)
end
