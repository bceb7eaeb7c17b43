section
/-! KINDS: which type is below which, in the class and in the reference -/
variable {X : Nat × (Nat → Int32)} {d : Nat} {s : sm_S}
abbrev rI (x : Int32) (s : sm_S) : sm_R := some (some (some (vI x)), s)
abbrev rV (s : sm_S) : sm_R := some (some none, s)
abbrev rL (x : Int64) (s : sm_S) : sm_R := some (some (some (vL x)), s)
abbrev rP (q : Nat × Nat) (s : sm_S) : sm_R := some (some (some (vP q)), s)
theorem bI_r {x : Int32} {hx : sm_S → sm_R} {k : Int32 → sm_S → sm_R} : sm_bI (rI x s) hx k = k x s := rfl
theorem bV_r {hx : sm_S → sm_R} {k : sm_S → sm_R} : sm_bV (rV s) hx k = k s := rfl
theorem bL_r {x : Int64} {hx : sm_S → sm_R} {k : Int64 → sm_S → sm_R} : sm_bL (rL x s) hx k = k x s := rfl
theorem bP_r {x : Nat × Nat} {hx : sm_S → sm_R} {k : Nat × Nat → sm_S → sm_R} : sm_bP (rP x s) hx k = k x s := rfl
theorem sm_rt1_0 : sm_rt 1 0 s = rI 0 s := rfl
theorem sm_rt1_1 : sm_rt 1 1 s = rI 1 s := rfl
/-- a small int is a number below n -/
theorem i32_nat {x : Int32} {n : Nat} (hn : n < 2 ^ 31) (h0 : ¬ x < 0) (h1 : x < Int32.ofNat n) : ∃ k, k < n ∧ x = Int32.ofNat k := by
  have e0 : (0 : Int) ≤ x.toInt := by
    rcases Int.lt_or_le x.toInt 0 with q | q
    · exact absurd (Int32.lt_iff_toInt_lt.mpr q) h0
    · exact q
  have e1 := Int32.lt_iff_toInt_lt.mp h1
  rw [Int32.toInt_ofNat_of_lt hn] at e1
  refine ⟨x.toInt.toNat, by omega, ?_⟩
  apply Int32.toInt_inj.mp
  rw [Int32.toInt_ofNat_of_lt (by omega)]
  omega
def rem18 (x : Int32) : Int32 := x - x / 18 * 18
theorem rem18_d : ∀ n, n < 36 → (¬ rem18 (Int32.ofNat n) < 0 ∧ (rem18 (Int32.ofNat n)).toNatClampNeg < 18) := by decide +kernel
theorem rem18_ok {x : Int32} (h0 : ¬ x < 0) (h1 : x < 36) : ¬ rem18 x < 0 ∧ (rem18 x).toNatClampNeg < 18 := by
  obtain ⟨k, hk, rfl⟩ := i32_nat (n := 36) (by decide) h0 h1
  exact rem18_d k hk
def cBel (x0 x1 : Int32) : Int32 := if x0 < 0 then 0 else if x0 < 36 then (if x1 < 0 then 0 else if x1 < 36 then (if x0 < 18 then (if x1 < 18 then cB x0 x1 else 0) else (if x1 < 18 then 0 else cB x0 x1)) else 0) else 0
where cB (x0 x1 : Int32) : Int32 := if ((((sm_tb 3).getD (rem18 x0).toNatClampNeg 0) >>> ((rem18 x1) &&& 31)) &&& 1) = 1 then 1 else 0
theorem c_isBelow (x0 x1 : Int32) : sm_callM X true (d + 1) 27 [vI x0, vI x1] s = rI (cBel x0 x1) s := by
  have key : ¬ x0 < 0 → x0 < 36 → ∀ y, sm_go (sm_ZZ X) sm_PP true (sm_callM X true d) 27 44 [vI x0, vI x1] [vI y, vI y] s = rI (cBel.cB x0 x1) s := by
    intro h0 h1 y
    rw [q_X1_isBelow_44, if_pos rfl]
    obtain ⟨g1, g2⟩ := rem18_ok h0 h1
    rw [show x0 - x0 / 18 * 18 = rem18 x0 from rfl, show x1 - x1 / 18 * 18 = rem18 x1 from rfl, sm_ix_ok g1 (show _ < (sm_tb 3).length from g2)]
    unfold cBel.cB
    split <;> rfl
  have key2 : ∀ y z, y ≠ z → sm_go (sm_ZZ X) sm_PP true (sm_callM X true d) 27 44 [vI x0, vI x1] [vI y, vI z] s = rI 0 s := by
    intro y z h
    rw [q_X1_isBelow_44, if_neg (Ne.symm h)]
  rw [f_X1_isBelow, q_X1_isBelow_0]
  unfold cBel
  by_cases a1 : x0 < 0
  · rw [if_pos a1, if_pos a1]
  rw [if_neg a1, if_neg a1]
  by_cases a2 : x0 < 36
  · rw [if_pos a2, if_pos a2]
    by_cases a3 : x1 < 0
    · rw [if_pos a3, if_pos a3]
    rw [if_neg a3, if_neg a3]
    by_cases a4 : x1 < 36
    · rw [if_pos a4, if_pos a4]
      by_cases a5 : x0 < 18 <;> by_cases a6 : x1 < 18 <;> simp only [a5, a6, if_true, if_false]
      · exact key a1 a2 0
      · exact key2 1 0 (by decide)
      · exact key2 0 1 (by decide)
      · exact key a1 a2 1
    · rw [if_neg a4, if_neg a4]
  · rw [if_neg a2, if_neg a2]
def cRef (x : Int32) : Int32 := if x < 0 then (if x = 37 then 1 else 0) else if x < 36 then 1 else if x = 37 then 1 else 0
theorem c_isReference (x : Int32) : sm_callM X true (d + 1) 26 [vI x] s = rI (cRef x) s := by
  rw [f_X1_isReference, q_X1_isReference_0]
  unfold cRef
  repeat' split
  all_goals rfl
theorem cRef_01 (x : Int32) : cRef x = 0 ∨ cRef x = 1 := by
  unfold cRef
  repeat' split
  all_goals first | exact Or.inl rfl | exact Or.inr rfl
theorem cBel_01 (x y : Int32) : cBel x y = 0 ∨ cBel x y = 1 := by
  unfold cBel cBel.cB
  repeat' split
  all_goals simp
theorem sm_rt1 {x : Int32} (h : x = 0 ∨ x = 1) : sm_rt 1 x s = rI x s := by rcases h with rfl | rfl <;> rfl
def cFit (x0 x1 : Int32) : Int32 := if x0 = 37 then cRef x1 else if x0 = 36 then (if x1 = 36 then 1 else 0) else cBel x0 x1
theorem c_fits (x0 x1 : Int32) : sm_callM X true (d + 2) 28 [vI x0, vI x1] s = rI (cFit x0 x1) s := by
  rw [f_X1_fits, q_X1_fits_0]
  unfold cFit
  split
  · rw [c_isReference]
    exact sm_rt1 (cRef_01 _)
  · split
    · split <;> rfl
    · rw [c_isBelow]
      exact sm_rt1 (cBel_01 _ _)
theorem c_isRow (x : Int32) : sm_callM X true (d + 1) 25 [vI x] s = rI (if x < 18 then 0 else if x < 36 then 1 else 0) s := by
  rw [f_X1_isRow, q_X1_isRow_0]
  repeat' split
  all_goals rfl
theorem c_isKind (x : Int32) : sm_callM X true (d + 1) 23 [vI x] s = rI (if x < 0 then 0 else if 12 < x then 0 else 1) s := by
  rw [f_X1_isKind, q_X1_isKind_0]
  repeat' split
  all_goals rfl
def cAsk (x0 x1 : Int32) : Int32 := if cRef x0 = 0 then 0 else if cRef x1 = 0 then 0 else if x0 = 37 then 1 else
  if (if x0 < 18 then (0 : Int32) else if x0 < 36 then 1 else 0) = (if x1 < 18 then (0 : Int32) else if x1 < 36 then 1 else 0) then
    (if (if rem18 x0 < 0 then (0 : Int32) else if 12 < rem18 x0 then 0 else 1) = 0 then 1 else if (if rem18 x1 < 0 then (0 : Int32) else if 12 < rem18 x1 then 0 else 1) = 0 then 1 else if cBel x0 x1 = 0 then (if cBel x1 x0 = 0 then 0 else 1) else 1) else 0
theorem c_mayBeAsked (x0 x1 : Int32) : sm_callM X true (d + 2) 29 [vI x0, vI x1] s = rI (cAsk x0 x1) s := by
  rw [f_X1_mayBeAsked, q_X1_mayBeAsked_0, c_isReference]
  show (if cRef x0 = 0 then _ else _) = _
  unfold cAsk
  by_cases h1 : cRef x0 = 0
  · rw [if_pos h1, if_pos h1]
  rw [if_neg h1, if_neg h1, c_isReference]
  show (if cRef x1 = 0 then _ else _) = _
  by_cases h2 : cRef x1 = 0
  · rw [if_pos h2, if_pos h2]
  rw [if_neg h2, if_neg h2]
  by_cases h3 : x0 = 37
  · rw [if_pos h3, if_pos h3]
  rw [if_neg h3, if_neg h3, c_isRow]
  rw [bI_r, c_isRow]
  show (if (if x0 < 18 then (0 : Int32) else if x0 < 36 then 1 else 0) = (if x1 < 18 then (0 : Int32) else if x1 < 36 then 1 else 0) then _ else _) = _
  by_cases h4 : (if x0 < 18 then (0 : Int32) else if x0 < 36 then 1 else 0) = (if x1 < 18 then (0 : Int32) else if x1 < 36 then 1 else 0)
  · rw [if_pos h4, if_pos h4, c_isKind]
    show (if (if rem18 x0 < 0 then (0 : Int32) else if 12 < rem18 x0 then 0 else 1) = 0 then _ else _) = _
    have t0 : sm_go (sm_ZZ X) sm_PP true (sm_callM X true (d + 1)) 29 62 [vI x0, vI x1, vU] [vI 0] s = rI 1 s := by rw [q_X1_mayBeAsked_62, if_pos rfl]
    by_cases h5 : (if rem18 x0 < 0 then (0 : Int32) else if 12 < rem18 x0 then 0 else 1) = 0
    · rw [if_pos h5, if_pos h5]; exact t0
    rw [if_neg h5, if_neg h5, c_isKind]
    show (if (if rem18 x1 < 0 then (0 : Int32) else if 12 < rem18 x1 then 0 else 1) = 0 then _ else _) = _
    by_cases h6 : (if rem18 x1 < 0 then (0 : Int32) else if 12 < rem18 x1 then 0 else 1) = 0
    · rw [if_pos h6, if_pos h6]; exact t0
    rw [if_neg h6, if_neg h6, q_X1_mayBeAsked_62, if_neg (by decide), c_isBelow]
    show (if cBel x0 x1 = 0 then _ else _) = _
    by_cases h7 : cBel x0 x1 = 0
    · rw [if_pos h7, if_pos h7, c_isBelow]
      show (if cBel x1 x0 = 0 then _ else _) = _
      split <;> rfl
    · rw [if_neg h7, if_neg h7]
  · rw [if_neg h4, if_neg h4]
/-! the reference: up from kind to kind -/
def anv : List Int32 → Int32 → Int32
  | [], _ => 0
  | a :: r, x => if a = x then 1 else anv r x
theorem m_up_m1 (v : sm_V) (x : Int32) : sm_go (sm_ZZ X) sm_PP true (sm_callM X true d) 182 33 [v, vI x, vI (-1)] [] s = rI (anv [-1] x) s := by
  rw [q_X13_isBelow_33, if_pos rfl]
  unfold anv
  split <;> rfl
theorem m_up_0 (v : sm_V) (x : Int32) : sm_go (sm_ZZ X) sm_PP true (sm_callM X true d) 182 33 [v, vI x, vI 0] [] s = rI (anv [0, -1] x) s := by
  rw [q_X13_isBelow_33, if_neg (by decide), sm_ix_ok (by decide) (by decide)]
  unfold anv
  by_cases h : (0 : Int32) = x
  · rw [if_pos h, if_pos h, if_pos h]
  · rw [if_neg h, if_neg h]
    exact m_up_m1 _ x
theorem m_up_1 (v : sm_V) (x : Int32) : sm_go (sm_ZZ X) sm_PP true (sm_callM X true d) 182 33 [v, vI x, vI 1] [] s = rI (anv [1, 0, -1] x) s := by
  rw [q_X13_isBelow_33, if_neg (by decide), sm_ix_ok (by decide) (by decide)]
  unfold anv
  by_cases h : (1 : Int32) = x
  · rw [if_pos h, if_pos h, if_pos h]
  · rw [if_neg h, if_neg h]
    exact m_up_0 _ x
theorem m_up_2 (v : sm_V) (x : Int32) : sm_go (sm_ZZ X) sm_PP true (sm_callM X true d) 182 33 [v, vI x, vI 2] [] s = rI (anv [2, 0, -1] x) s := by
  rw [q_X13_isBelow_33, if_neg (by decide), sm_ix_ok (by decide) (by decide)]
  unfold anv
  by_cases h : (2 : Int32) = x
  · rw [if_pos h, if_pos h, if_pos h]
  · rw [if_neg h, if_neg h]
    exact m_up_0 _ x
theorem m_up_3 (v : sm_V) (x : Int32) : sm_go (sm_ZZ X) sm_PP true (sm_callM X true d) 182 33 [v, vI x, vI 3] [] s = rI (anv [3, 1, 0, -1] x) s := by
  rw [q_X13_isBelow_33, if_neg (by decide), sm_ix_ok (by decide) (by decide)]
  unfold anv
  by_cases h : (3 : Int32) = x
  · rw [if_pos h, if_pos h, if_pos h]
  · rw [if_neg h, if_neg h]
    exact m_up_1 _ x
theorem m_up_4 (v : sm_V) (x : Int32) : sm_go (sm_ZZ X) sm_PP true (sm_callM X true d) 182 33 [v, vI x, vI 4] [] s = rI (anv [4, 1, 0, -1] x) s := by
  rw [q_X13_isBelow_33, if_neg (by decide), sm_ix_ok (by decide) (by decide)]
  unfold anv
  by_cases h : (4 : Int32) = x
  · rw [if_pos h, if_pos h, if_pos h]
  · rw [if_neg h, if_neg h]
    exact m_up_1 _ x
theorem m_up_5 (v : sm_V) (x : Int32) : sm_go (sm_ZZ X) sm_PP true (sm_callM X true d) 182 33 [v, vI x, vI 5] [] s = rI (anv [5, 2, 0, -1] x) s := by
  rw [q_X13_isBelow_33, if_neg (by decide), sm_ix_ok (by decide) (by decide)]
  unfold anv
  by_cases h : (5 : Int32) = x
  · rw [if_pos h, if_pos h, if_pos h]
  · rw [if_neg h, if_neg h]
    exact m_up_2 _ x
theorem m_up_6 (v : sm_V) (x : Int32) : sm_go (sm_ZZ X) sm_PP true (sm_callM X true d) 182 33 [v, vI x, vI 6] [] s = rI (anv [6, 2, 0, -1] x) s := by
  rw [q_X13_isBelow_33, if_neg (by decide), sm_ix_ok (by decide) (by decide)]
  unfold anv
  by_cases h : (6 : Int32) = x
  · rw [if_pos h, if_pos h, if_pos h]
  · rw [if_neg h, if_neg h]
    exact m_up_2 _ x
theorem m_up_7 (v : sm_V) (x : Int32) : sm_go (sm_ZZ X) sm_PP true (sm_callM X true d) 182 33 [v, vI x, vI 7] [] s = rI (anv [7, 2, 0, -1] x) s := by
  rw [q_X13_isBelow_33, if_neg (by decide), sm_ix_ok (by decide) (by decide)]
  unfold anv
  by_cases h : (7 : Int32) = x
  · rw [if_pos h, if_pos h, if_pos h]
  · rw [if_neg h, if_neg h]
    exact m_up_2 _ x
theorem m_up_8 (v : sm_V) (x : Int32) : sm_go (sm_ZZ X) sm_PP true (sm_callM X true d) 182 33 [v, vI x, vI 8] [] s = rI (anv [8, 2, 0, -1] x) s := by
  rw [q_X13_isBelow_33, if_neg (by decide), sm_ix_ok (by decide) (by decide)]
  unfold anv
  by_cases h : (8 : Int32) = x
  · rw [if_pos h, if_pos h, if_pos h]
  · rw [if_neg h, if_neg h]
    exact m_up_2 _ x
theorem m_up_9 (v : sm_V) (x : Int32) : sm_go (sm_ZZ X) sm_PP true (sm_callM X true d) 182 33 [v, vI x, vI 9] [] s = rI (anv [9, 4, 1, 0, -1] x) s := by
  rw [q_X13_isBelow_33, if_neg (by decide), sm_ix_ok (by decide) (by decide)]
  unfold anv
  by_cases h : (9 : Int32) = x
  · rw [if_pos h, if_pos h, if_pos h]
  · rw [if_neg h, if_neg h]
    exact m_up_4 _ x
theorem m_up_10 (v : sm_V) (x : Int32) : sm_go (sm_ZZ X) sm_PP true (sm_callM X true d) 182 33 [v, vI x, vI 10] [] s = rI (anv [10, 5, 2, 0, -1] x) s := by
  rw [q_X13_isBelow_33, if_neg (by decide), sm_ix_ok (by decide) (by decide)]
  unfold anv
  by_cases h : (10 : Int32) = x
  · rw [if_pos h, if_pos h, if_pos h]
  · rw [if_neg h, if_neg h]
    exact m_up_5 _ x
theorem m_up_11 (v : sm_V) (x : Int32) : sm_go (sm_ZZ X) sm_PP true (sm_callM X true d) 182 33 [v, vI x, vI 11] [] s = rI (anv [11, 6, 2, 0, -1] x) s := by
  rw [q_X13_isBelow_33, if_neg (by decide), sm_ix_ok (by decide) (by decide)]
  unfold anv
  by_cases h : (11 : Int32) = x
  · rw [if_pos h, if_pos h, if_pos h]
  · rw [if_neg h, if_neg h]
    exact m_up_6 _ x
theorem m_up_12 (v : sm_V) (x : Int32) : sm_go (sm_ZZ X) sm_PP true (sm_callM X true d) 182 33 [v, vI x, vI 12] [] s = rI (anv [12, 7, 2, 0, -1] x) s := by
  rw [q_X13_isBelow_33, if_neg (by decide), sm_ix_ok (by decide) (by decide)]
  unfold anv
  by_cases h : (12 : Int32) = x
  · rw [if_pos h, if_pos h, if_pos h]
  · rw [if_neg h, if_neg h]
    exact m_up_7 _ x
def mch (n : Nat) : List Int32 := match n with
  | 0 => [-1]
  | 1 => [0, -1]
  | 2 => [0, -1]
  | 3 => [1, 0, -1]
  | 4 => [1, 0, -1]
  | 5 => [2, 0, -1]
  | 6 => [2, 0, -1]
  | 7 => [2, 0, -1]
  | 8 => [2, 0, -1]
  | 9 => [4, 1, 0, -1]
  | 10 => [5, 2, 0, -1]
  | 11 => [6, 2, 0, -1]
  | 12 => [7, 2, 0, -1]
  | _ => []
def mKin (x0 x1 : Int32) : Int32 := if x0 = x1 then 1 else anv (mch x0.toNatClampNeg) x1
theorem m_isBelow_k (n : Nat) (hn : n < 13) (x1 : Int32) (h1 : x1 < 13) : sm_callM X true (d + 1) 182 [vI (Int32.ofNat n), vI x1] s = rI (mKin (Int32.ofNat n) x1) s := by
  rw [f_X13_isBelow, q_X13_isBelow_0]
  unfold mKin
  by_cases h : Int32.ofNat n = x1
  · rw [if_pos h, if_pos h]
  rw [if_neg h, if_neg h]
  have hl : ∀ n, n < 13 → (Int32.ofNat n < 13 ∧ ¬ Int32.ofNat n < 0 ∧ (Int32.ofNat n).toNatClampNeg = n) := by decide +kernel
  obtain ⟨g1, g2, g3⟩ := hl n hn
  rw [if_pos g1, if_pos h1, sm_ix_ok g2 (by rw [g3]; exact hn), g3]
  match n, hn with
  | 0, _ => exact m_up_m1 _ x1
  | 1, _ => exact m_up_0 _ x1
  | 2, _ => exact m_up_0 _ x1
  | 3, _ => exact m_up_1 _ x1
  | 4, _ => exact m_up_1 _ x1
  | 5, _ => exact m_up_2 _ x1
  | 6, _ => exact m_up_2 _ x1
  | 7, _ => exact m_up_2 _ x1
  | 8, _ => exact m_up_2 _ x1
  | 9, _ => exact m_up_4 _ x1
  | 10, _ => exact m_up_5 _ x1
  | 11, _ => exact m_up_6 _ x1
  | 12, _ => exact m_up_7 _ x1
  | n + 13, h => omega
def mHas (x0 x1 : Int32) : Int32 := if x1 = 13 then (if mKin x0 5 = 0 then (if mKin x0 6 = 0 then (if mKin x0 7 = 0 then 0 else 1) else 1) else 1)
  else if x1 = 14 then (if x0 = 10 then 1 else if x0 = 11 then 1 else 0)
  else if x1 = 15 then (if mKin x0 1 = 0 then (if x0 = 8 then 1 else 0) else 1)
  else if x1 = 16 then (if x0 = 9 then 1 else if x0 = 12 then 1 else 0)
  else if x0 = 3 then 1 else if mKin x0 4 = 0 then (if x0 = 10 then 1 else 0) else 1
theorem m_has (n : Nat) (hn : n < 13) (x1 : Int32) : sm_callM X true (d + 2) 181 [vI (Int32.ofNat n), vI x1] s = rI (mHas (Int32.ofNat n) x1) s := by
  have b : ∀ (y : Int32), y < 13 → ∀ (k : Int32 → sm_S → sm_R), sm_bI (sm_callM X true (d + 1) 182 [vI (Int32.ofNat n), vI y] s) sm_tw k = k (mKin (Int32.ofNat n) y) s := fun y hy k => by rw [m_isBelow_k n hn y hy]; rfl
  rw [f_X13_has, q_X13_has_0]
  unfold mHas
  simp only [b 5 (by decide), b 6 (by decide), b 7 (by decide), b 1 (by decide), b 4 (by decide)]
  repeat' split
  all_goals first | rfl | contradiction
theorem mHas_01 (x y : Int32) : mHas x y = 0 ∨ mHas x y = 1 := by
  unfold mHas
  repeat' split
  all_goals first | exact Or.inl rfl | exact Or.inr rfl
def mBel (x0 x1 : Int32) : Int32 := if x0 = x1 then 1 else if x0 < 13 then (if x1 < 13 then mKin x0 x1 else mHas x0 x1) else 0
theorem m_isBelow (n : Nat) (hn : n < 18) (x1 : Int32) : sm_callM X true (d + 3) 182 [vI (Int32.ofNat n), vI x1] s = rI (mBel (Int32.ofNat n) x1) s := by
  have hl : ∀ n, n < 18 → (Int32.ofNat n < 13 ↔ n < 13) := by decide +kernel
  by_cases h1 : n < 13
  · by_cases h2 : x1 < 13
    · rw [m_isBelow_k n h1 x1 h2]
      unfold mBel
      rw [if_pos ((hl n hn).mpr h1), if_pos h2]
      unfold mKin
      split <;> rfl
    · rw [f_X13_isBelow, q_X13_isBelow_0]
      unfold mBel
      by_cases h : Int32.ofNat n = x1
      · rw [if_pos h, if_pos h]
      rw [if_neg h, if_neg h, if_pos ((hl n hn).mpr h1), if_pos ((hl n hn).mpr h1), if_neg h2, if_neg h2, m_has n h1]
      exact sm_rt1 (mHas_01 _ _)
  · rw [f_X13_isBelow, q_X13_isBelow_0]
    unfold mBel
    rw [if_neg (fun q => h1 ((hl n hn).mp q))]
    by_cases h : Int32.ofNat n = x1
    · rw [if_pos h, if_pos h]
    · rw [if_neg h, if_neg h, if_neg (fun q => h1 ((hl n hn).mp q))]
theorem m_isReference (x : Int32) : sm_callM X true (d + 1) 183 [vI x] s = rI (cRef x) s := by
  rw [f_X13_isReference, q_X13_isReference_0]
  unfold cRef
  repeat' split
  all_goals rfl
def mRow (x : Int32) : Int32 := if x < 18 then 0 else if x < 36 then 1 else 0
theorem m_isRow (x : Int32) : sm_callM X true (d + 1) 184 [vI x] s = rI (mRow x) s := by
  rw [f_X13_isRow, q_X13_isRow_0]
  unfold mRow
  repeat' split
  all_goals rfl
def mFit (x0 x1 : Int32) : Int32 := if x0 = 37 then cRef x1 else if x0 < 36 then (if x1 < 36 then (if mRow x0 = mRow x1 then (if mBel (rem18 x0) (rem18 x1) = 0 then 0 else 1) else 0) else 0) else if x0 = 36 then (if x1 = 36 then 1 else 0) else 0
theorem rem18_n : ∀ n, n < 36 → rem18 (Int32.ofNat n) = Int32.ofNat (n % 18) := by decide +kernel
theorem m_fits (n : Nat) (x1 : Int32) (hn : n < 39) : sm_callM X true (d + 4) 185 [vI (Int32.ofNat n), vI x1] s = rI (mFit (Int32.ofNat n) x1) s := by
  have hl : ∀ n, n < 39 → ((Int32.ofNat n < 36 ↔ n < 36) ∧ (Int32.ofNat n = 36 ↔ n = 36)) := by decide +kernel
  obtain ⟨l1, l2⟩ := hl n hn
  rw [f_X13_fits, q_X13_fits_0]
  unfold mFit
  by_cases h1 : Int32.ofNat n = 37
  · rw [if_pos h1, if_pos h1, m_isReference]
    exact sm_rt1 (cRef_01 _)
  rw [if_neg h1, if_neg h1]
  by_cases h2 : Int32.ofNat n < 36
  · rw [if_pos h2, if_pos h2]
    have h36 := l1.mp h2
    by_cases h3 : x1 < 36
    · rw [if_pos h3, if_pos h3, m_isRow, bI_r, m_isRow, bI_r]
      by_cases h4 : mRow (Int32.ofNat n) = mRow x1
      · rw [if_pos h4, if_pos h4, show Int32.ofNat n - Int32.ofNat n / 18 * 18 = rem18 (Int32.ofNat n) from rfl, rem18_n n h36, m_isBelow _ (Nat.mod_lt _ (by decide)), bI_r]
        show (if mBel (Int32.ofNat (n % 18)) (rem18 x1) = 0 then _ else _) = _
        split <;> rfl
      · rw [if_neg h4, if_neg h4]
    · rw [if_neg h3, if_neg h3, q_X13_fits_23, if_neg (fun q => by have := l2.mp q; omega)]
  · rw [if_neg h2, if_neg h2, q_X13_fits_23]
    repeat' split
    all_goals rfl
def mAsk (x0 x1 : Int32) : Int32 := if cRef x0 = 0 then 0 else if cRef x1 = 0 then 0 else if x0 = 37 then 1 else if mRow x0 = mRow x1 then (if rem18 x0 < 13 then (if rem18 x1 < 13 then (if mBel (rem18 x0) (rem18 x1) = 0 then (if mBel (rem18 x1) (rem18 x0) = 0 then 0 else 1) else 1) else 1) else 1) else 0
theorem m_mayBe (n m : Nat) (hn : n < 39) (hm : m < 39) : sm_callM X true (d + 4) 186 [vI (Int32.ofNat n), vI (Int32.ofNat m)] s = rI (mAsk (Int32.ofNat n) (Int32.ofNat m)) s := by
  rw [f_X13_mayBe, q_X13_mayBe_0, m_isReference, bI_r]
  unfold mAsk
  by_cases h1 : cRef (Int32.ofNat n) = 0
  · rw [if_pos h1, if_pos h1]
  rw [if_neg h1, if_neg h1, m_isReference, bI_r]
  by_cases h2 : cRef (Int32.ofNat m) = 0
  · rw [if_pos h2, if_pos h2]
  rw [if_neg h2, if_neg h2]
  by_cases h3 : Int32.ofNat n = 37
  · rw [if_pos h3, if_pos h3]
  rw [if_neg h3, if_neg h3, m_isRow, bI_r, m_isRow, bI_r]
  by_cases h4 : mRow (Int32.ofNat n) = mRow (Int32.ofNat m)
  · have hl : ∀ n, n < 39 → cRef (Int32.ofNat n) ≠ 0 → Int32.ofNat n ≠ 37 → n < 36 := by decide +kernel
    have hr : ∀ n, n < 39 → ∀ m, m < 39 → n < 36 → cRef (Int32.ofNat m) ≠ 0 → mRow (Int32.ofNat n) = mRow (Int32.ofNat m) → rem18 (Int32.ofNat m) = Int32.ofNat (m % 18) := by decide +kernel
    have n36 := hl n hn h1 h3
    rw [if_pos h4, if_pos h4, show Int32.ofNat n - Int32.ofNat n / 18 * 18 = rem18 (Int32.ofNat n) from rfl, show Int32.ofNat m - Int32.ofNat m / 18 * 18 = rem18 (Int32.ofNat m) from rfl, rem18_n n n36, hr n hn m hm n36 h2 h4]
    by_cases h5 : Int32.ofNat (n % 18) < 13
    · rw [if_pos h5, if_pos h5]
      by_cases h6 : Int32.ofNat (m % 18) < 13
      · rw [if_pos h6, if_pos h6, m_isBelow _ (Nat.mod_lt _ (by decide)), bI_r, m_isBelow _ (Nat.mod_lt _ (by decide)), bI_r]
        repeat' split
        all_goals rfl
      · rw [if_neg h6, if_neg h6]
    · rw [if_neg h5, if_neg h5]
  · rw [if_neg h4, if_neg h4]
/-! THE TWO ARE ONE -/
theorem kin_fit : ∀ n, n < 39 → ∀ m, m < 39 → cFit (Int32.ofNat n) (Int32.ofNat m) = mFit (Int32.ofNat n) (Int32.ofNat m) := by decide +kernel
theorem kin_ask : ∀ n, n < 39 → ∀ m, m < 37 → cAsk (Int32.ofNat n) (Int32.ofNat m) = mAsk (Int32.ofNat n) (Int32.ofNat m) := by decide +kernel
theorem kin_bel : ∀ n, n < 36 → ∀ m, m < 36 → cBel (Int32.ofNat n) (Int32.ofNat m) = mFit (Int32.ofNat n) (Int32.ofNat m) := by decide +kernel
end
