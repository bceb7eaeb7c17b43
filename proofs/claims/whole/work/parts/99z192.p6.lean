section
/-! FEED: four bytes of each number, from the left -/
variable {X : Nat × (Nat → Int32)} {d : Nat} {s σ σ' τ : sm_S} {len n i k m j t u ci mi mj : Nat} {c v a b w y : Int32} {R R' : Nat → Int32}
def bw (x k : Int32) : Int32 := Int8.toInt32 (Int32.toInt8 (Int8.toInt32 (Int32.toInt8 (x >>> (k &&& 31)))))
def put1 (R : Nat → Int32) (len : Nat) (v : Int32) : Nat → Int32 := fun j => if j = len then v else R j
def put4 (R : Nat → Int32) (len : Nat) (x : Int32) : Nat → Int32 := put1 (put1 (put1 (put1 R len (bw x 24)) (len + 1) (bw x 16)) (len + 2) (bw x 8)) (len + 3) (bw x 0)
def put20 (R : Nat → Int32) (len : Nat) (a b c v w : Int32) : Nat → Int32 := put4 (put4 (put4 (put4 (put4 R len a) (len + 4) b) (len + 8) c) (len + 12) v) (len + 16) w
theorem i8_b (x : Int8) : -128 ≤ Int8.toInt32 x ∧ Int8.toInt32 x ≤ 127 := by
  have a1 := Int8.le_toInt x
  have a2 := Int8.toInt_lt x
  rw [Int32.le_iff_toInt_le, Int32.le_iff_toInt_le, Int8.toInt_toInt32]
  constructor
  · exact a1
  · exact Int.le_of_lt_add_one a2
theorem b8_1 (h : b8 R) : b8 (put1 R len (bw v w)) := fun j => by
  unfold put1
  by_cases z : j = len
  · rw [if_pos z]; exact i8_b _
  · rw [if_neg z]; exact h j
theorem b8_4 (h : b8 R) : b8 (put4 R len v) := b8_1 (b8_1 (b8_1 (b8_1 h)))
theorem b8_20 (h : b8 R) : b8 (put20 R len a b c v w) := b8_4 (b8_4 (b8_4 (b8_4 (b8_4 h))))

theorem c_add1 (hl : σ.1 17 0 1 = Int32.ofNat len) (h3 : len < 3000) (hR : ∀ j, σ.1 52 0 j = R j) (hy : ¬ y < 0) : ∃ σ', sm_go (sm_ZZ X) sm_PP true (sm_callM X true d) 131 3 [vP (17, 0), vI v, vI y] [] σ = sm_go (sm_ZZ X) sm_PP true (sm_callM X true d) 131 3 [vP (17, 0), vI v, vI (y + (-8))] [] σ' ∧ σ'.1 17 0 1 = Int32.ofNat (len + 1) ∧ ∀ j, σ'.1 52 0 j = put1 R len (bw v y) j := by
  rw [q_X7_add_3, if_neg hy, hl, show (3000 : Int32) = Int32.ofNat 3000 from rfl, if_pos (by rw [i_lt (by omega) (by omega)]; omega), ix_nat h3 (by omega)]
  refine ⟨_, rfl, ?_, fun j => ?_⟩
  · rw [gI, if_pos ⟨rfl, rfl, rfl⟩, gI, if_neg (by omega), hl, i_s]
  · rw [gI, if_neg (by omega), gI]
    unfold put1
    by_cases z : j = len
    · rw [if_pos ⟨rfl, rfl, z⟩, if_pos z]; rfl
    · rw [if_neg (fun q => z q.2.2), if_neg z]; exact hR j
theorem c_add (hl : σ.1 17 0 1 = Int32.ofNat len) (h3 : len + 4 ≤ 3000) (hR : ∀ j, σ.1 52 0 j = R j) : ∃ σ', sm_callM X true (d + 1) 131 [vP (17, 0), vI v] σ = rV σ' ∧ σ'.1 17 0 1 = Int32.ofNat (len + 4) ∧ ∀ j, σ'.1 52 0 j = put4 R len v j := by
  rw [f_X7_add, q_X7_add_0]
  obtain ⟨σ1, e1, l1, r1⟩ := c_add1 (X := X) (d := d) (v := v) (y := 24) hl (by omega) hR (by decide)
  obtain ⟨σ2, e2, l2, r2⟩ := c_add1 (X := X) (d := d) (v := v) (y := 24 + (-8)) l1 (by omega) r1 (by decide)
  obtain ⟨σ3, e3, l3, r3⟩ := c_add1 (X := X) (d := d) (v := v) (y := 24 + (-8) + (-8)) l2 (by omega) r2 (by decide)
  obtain ⟨σ4, e4, l4, r4⟩ := c_add1 (X := X) (d := d) (v := v) (y := 24 + (-8) + (-8) + (-8)) l3 (by omega) r3 (by decide)
  rw [e1, e2, e3, e4, q_X7_add_3, if_pos (by decide)]
  exact ⟨_, rfl, l4, r4⟩

theorem m_add1 (hl : σ.1 23 0 1 = Int32.ofNat len) (h3 : len < 3000) (hR : ∀ j, σ.1 67 0 j = R j) (hy : ¬ y < 0) : ∃ σ', sm_go (sm_ZZ X) sm_PP true (sm_callM X true d) 278 3 [vP (23, 0), vI v, vI y] [] σ = sm_go (sm_ZZ X) sm_PP true (sm_callM X true d) 278 3 [vP (23, 0), vI v, vI (y + (-8))] [] σ' ∧ σ'.1 23 0 1 = Int32.ofNat (len + 1) ∧ ∀ j, σ'.1 67 0 j = put1 R len (bw v y) j := by
  rw [q_X13_comes_3, if_neg hy, hl, ix_nat h3 (by omega)]
  refine ⟨_, rfl, ?_, fun j => ?_⟩
  · rw [gI, if_pos ⟨rfl, rfl, rfl⟩, gI, if_neg (by omega), hl, i_s]
  · rw [gI, if_neg (by omega), gI]
    unfold put1
    by_cases z : j = len
    · rw [if_pos ⟨rfl, rfl, z⟩, if_pos z]; rfl
    · rw [if_neg (fun q => z q.2.2), if_neg z]; exact hR j
theorem m_add (hl : σ.1 23 0 1 = Int32.ofNat len) (h3 : len + 4 ≤ 3000) (hR : ∀ j, σ.1 67 0 j = R j) : ∃ σ', sm_callM X true (d + 1) 278 [vP (23, 0), vI v] σ = rV σ' ∧ σ'.1 23 0 1 = Int32.ofNat (len + 4) ∧ ∀ j, σ'.1 67 0 j = put4 R len v j := by
  rw [f_X13_comes, q_X13_comes_0]
  obtain ⟨σ1, e1, l1, r1⟩ := m_add1 (X := X) (d := d) (v := v) (y := 24) hl (by omega) hR (by decide)
  obtain ⟨σ2, e2, l2, r2⟩ := m_add1 (X := X) (d := d) (v := v) (y := 24 + (-8)) l1 (by omega) r1 (by decide)
  obtain ⟨σ3, e3, l3, r3⟩ := m_add1 (X := X) (d := d) (v := v) (y := 24 + (-8) + (-8)) l2 (by omega) r2 (by decide)
  obtain ⟨σ4, e4, l4, r4⟩ := m_add1 (X := X) (d := d) (v := v) (y := 24 + (-8) + (-8) + (-8)) l3 (by omega) r3 (by decide)
  rw [e1, e2, e3, e4, q_X13_comes_3, if_pos (by decide)]
  exact ⟨_, rfl, l4, r4⟩

def feedY (len : Nat) : Int32 := if 2980 < len then -1 else Int32.ofNat (len + 20)
theorem fd_c (h3 : len ≤ 3000) : (3000 < Int32.ofNat len + 20) ↔ 2980 < len := by
  rw [show Int32.ofNat len + 20 = Int32.ofNat (len + 20) from i_add, show (3000 : Int32) = Int32.ofNat 3000 from rfl, i_lt (by omega) (by omega)]; omega
theorem c_feed (hl : σ.1 17 0 1 = Int32.ofNat len) (h3 : len ≤ 3000) (hR : ∀ j, σ.1 52 0 j = R j) : ∃ σ', sm_callM X true (d + 2) 167 [vP (21, 0), vI a, vI b, vI c, vI v, vI w] σ = rI (feedY len) σ' ∧ σ'.1 17 0 1 = Int32.ofNat (if 2980 < len then len else len + 20) ∧ ∀ j, σ'.1 52 0 j = (if 2980 < len then R else put20 R len a b c v w) j := by
  rw [f_X11_feed, q_X11_feed_0, f_X7_hasRoom, q_X7_hasRoom_0, hl]
  unfold feedY
  by_cases z : 2980 < len
  · rw [if_pos ((fd_c h3).mpr z), bI_r, if_pos rfl, if_pos z, if_pos z, if_pos z]; exact ⟨_, rfl, hl, hR⟩
  · rw [if_neg (fun q => z ((fd_c h3).mp q)), bI_r, if_neg (by decide), if_neg z, if_neg z, if_neg z]
    obtain ⟨σ1, e1, l1, r1⟩ := c_add (X := X) (d := d) (v := a) hl (by omega) hR
    obtain ⟨σ2, e2, l2, r2⟩ := c_add (X := X) (d := d) (v := b) l1 (by omega) r1
    obtain ⟨σ3, e3, l3, r3⟩ := c_add (X := X) (d := d) (v := c) l2 (by omega) r2
    obtain ⟨σ4, e4, l4, r4⟩ := c_add (X := X) (d := d) (v := v) l3 (by omega) r3
    obtain ⟨σ5, e5, l5, r5⟩ := c_add (X := X) (d := d) (v := w) l4 (by omega) r4
    rw [e1, bV_r, e2, bV_r, e3, bV_r, e4, bV_r, e5, bV_r, l5]
    exact ⟨_, rfl, l5, r5⟩
theorem m_feed (hl : σ.1 23 0 1 = Int32.ofNat len) (h3 : len ≤ 3000) (hR : ∀ j, σ.1 67 0 j = R j) : ∃ σ', sm_callM X true (d + 2) 279 [vP (23, 0), vI a, vI b, vI c, vI v, vI w] σ = rI (feedY len) σ' ∧ σ'.1 23 0 1 = Int32.ofNat (if 2980 < len then len else len + 20) ∧ ∀ j, σ'.1 67 0 j = (if 2980 < len then R else put20 R len a b c v w) j := by
  rw [f_X13_feed, q_X13_feed_0, hl]
  unfold feedY
  by_cases z : 2980 < len
  · rw [if_pos ((fd_c h3).mpr z), if_pos z, if_pos z, if_pos z]; exact ⟨_, rfl, hl, hR⟩
  · rw [if_neg (fun q => z ((fd_c h3).mp q)), if_neg z, if_neg z, if_neg z]
    obtain ⟨σ1, e1, l1, r1⟩ := m_add (X := X) (d := d) (v := a) hl (by omega) hR
    obtain ⟨σ2, e2, l2, r2⟩ := m_add (X := X) (d := d) (v := b) l1 (by omega) r1
    obtain ⟨σ3, e3, l3, r3⟩ := m_add (X := X) (d := d) (v := c) l2 (by omega) r2
    obtain ⟨σ4, e4, l4, r4⟩ := m_add (X := X) (d := d) (v := v) l3 (by omega) r3
    obtain ⟨σ5, e5, l5, r5⟩ := m_add (X := X) (d := d) (v := w) l4 (by omega) r4
    rw [e1, bV_r, e2, bV_r, e3, bV_r, e4, bV_r, e5, bV_r, l5]
    exact ⟨_, rfl, l5, r5⟩
theorem feed_le (h3 : len ≤ 3000) : (if 2980 < len then len else len + 20) ≤ 3000 := by
  by_cases z : 2980 < len
  · rw [if_pos z]; exact h3
  · rw [if_neg z]; omega
/-! the fault -/
def fltY (f p a : Int32) : Int32 := if a = 0 then f else if a = 1 then p else -1
theorem c_flt : sm_callM X true (d + 1) 169 [vP (21, 0), vI a] σ = rI (fltY (σ.1 15 0 11) (σ.1 15 0 12) a) σ := by
  rw [f_X11_fault, q_X11_fault_0]
  unfold fltY
  by_cases z : a = 0
  · rw [if_pos z, if_pos z]
  · rw [if_neg z, if_neg z]
    by_cases z1 : a = 1
    · rw [if_pos z1, if_pos z1]
    · rw [if_neg z1, if_neg z1]
theorem m_flt : sm_callM X true (d + 1) 281 [vP (23, 0), vI a] σ = rI (fltY (σ.1 23 0 9) (σ.1 23 0 10) a) σ := by
  rw [f_X13_fault_, q_X13_fault__0]
  unfold fltY
  by_cases z : a = 0
  · rw [if_pos z, if_pos z]
  · rw [if_neg z, if_neg z]
    by_cases z1 : a = 1
    · rw [if_pos z1, if_pos z1]
    · rw [if_neg z1, if_neg z1]
end
