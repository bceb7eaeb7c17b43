section
/-! TEXTS: length, charAt, indexIn, packed -/
variable {X : Nat × (Nat → Int32)} {d : Nat} {s : sm_S}
theorem i_lt {a b : Nat} (ha : a < 2 ^ 31) (hb : b < 2 ^ 31) : (Int32.ofNat a < Int32.ofNat b) ↔ a < b := by
  rw [Int32.lt_iff_toInt_lt, Int32.toInt_ofNat_of_lt ha, Int32.toInt_ofNat_of_lt hb]; omega
theorem i_le {a b : Nat} (ha : a < 2 ^ 31) (hb : b < 2 ^ 31) : (Int32.ofNat a ≤ Int32.ofNat b) ↔ a ≤ b := by
  rw [Int32.le_iff_toInt_le, Int32.toInt_ofNat_of_lt ha, Int32.toInt_ofNat_of_lt hb]; omega
theorem i_eq {a b : Nat} (ha : a < 2 ^ 31) (hb : b < 2 ^ 31) : (Int32.ofNat a = Int32.ofNat b) ↔ a = b := by
  rw [← Int32.toInt_inj, Int32.toInt_ofNat_of_lt ha, Int32.toInt_ofNat_of_lt hb]; omega
theorem i_nn {a : Nat} (ha : a < 2 ^ 31) : ¬ Int32.ofNat a < 0 := by
  rw [Int32.lt_iff_toInt_lt, Int32.toInt_ofNat_of_lt ha]
  show ¬ (a : Int) < 0
  omega
theorem i_tn {a : Nat} (ha : a < 2 ^ 31) : (Int32.ofNat a).toNatClampNeg = a := Int32.toNatClampNeg_ofNat_of_lt ha
theorem i_s {a : Nat} : Int32.ofNat a + 1 = Int32.ofNat (a + 1) := by
  rw [Int32.ofNat_add]; rfl
theorem ix_nat {n k : Nat} {f : Nat → sm_R} (hk : k < n) (hn : n < 2 ^ 31) : sm_ix (Int32.ofNat k) n f = f k := by
  rw [sm_ix_ok (i_nn (by omega)) (by rw [i_tn (by omega)]; exact hk), i_tn (by omega)]
theorem lgc (x y : Int64) : lg_cmp x y = 0 ↔ x = y := by
  unfold lg_cmp
  by_cases h1 : x > y
  · rw [if_pos h1]
    constructor
    · intro h; cases h
    · rintro rfl; exact absurd h1 (Int64.lt_irrefl)
  · rw [if_neg h1]
    by_cases h2 : x = y
    · simp [h2]
    · rw [if_neg h2]
      constructor
      · intro h; cases h
      · intro h; exact absurd h h2
theorem sm_by_ok : (List.range 54).all (fun i => decide ((sm_by i).length < 1000) && (sm_by i).all (fun c => decide (¬ c < 0) && decide (c < 128))) = true := by decide +kernel
theorem sm_by_n {i : Nat} (hi : i < 54) : (sm_by i).length < 1000 := by
  have h := List.all_eq_true.mp sm_by_ok i (List.mem_range.mpr hi)
  rw [Bool.and_eq_true] at h
  exact of_decide_eq_true h.1
theorem sm_by_c {i : Nat} (hi : i < 54) {c : Int32} (hc : c ∈ sm_by i) : ¬ c < 0 ∧ c < 128 := by
  have h := List.all_eq_true.mp sm_by_ok i (List.mem_range.mpr hi)
  rw [Bool.and_eq_true] at h
  have h2 := List.all_eq_true.mp h.2 c hc
  rw [Bool.and_eq_true] at h2
  exact ⟨of_decide_eq_true h2.1, of_decide_eq_true h2.2⟩
theorem chr_d : ∀ n, n < 128 → (UInt32.toInt32 (Int32.toUInt32 (Int32.ofNat n &&& 255) % 65536) = Int32.ofNat n ∧ (0 ≤ Int32.ofNat n ∧ Int32.ofNat n ≤ 65535)) := by decide +kernel
theorem chr_ok {c : Int32} (h0 : ¬ c < 0) (h1 : c < 128) : sm_rt 2 (UInt32.toInt32 (Int32.toUInt32 (c &&& 255) % 65536)) s = rI c s ∧ sm_rt 2 c s = rI c s := by
  obtain ⟨k, hk, rfl⟩ := i32_nat (n := 128) (by decide) h0 h1
  obtain ⟨e1, e2⟩ := chr_d k hk
  have e3 : sm_rt 2 (Int32.ofNat k) s = rI (Int32.ofNat k) s := if_pos e2
  rw [e1]
  exact ⟨e3, e3⟩
theorem j_length (i : Nat) : sm_callM X true (d + 2) 294 [vP (5, i)] s = rI (Int32.ofNat (sm_by i).length) s := by
  rw [f_J0_length_8abf5, q_J0_length_8abf5_0, f_J0_coder_7d493, q_J0_coder_7d493_0]
  show rI (Int32.ofNat (sm_by i).length >>> (0 &&& 31)) s = _
  congr 4
  simp
theorem j_check {a b : Nat} (h : a < b) (hb : b < 2 ^ 31) : sm_callM X true (d + 2) 300 [vI (Int32.ofNat a), vI (Int32.ofNat b)] s = rV s := by
  rw [f_J0_checkIndex_df160, q_J0_checkIndex_df160_0, sm_callM_eq (k := 305) (L := [vI (Int32.ofNat a), vI (Int32.ofNat b), vU]) (by decide) (Nat.le_of_ble_eq_true rfl) rfl, q_J3_checkIndex_8e157_0, if_neg (i_nn (by omega)), if_pos ((i_lt (by omega) hb).mpr h)]
  rfl
theorem j_charAt {i k : Nat} (hi : i < 54) {c : Int32} (hk : (sm_by i)[k]? = some c) : sm_callM X true (d + 4) 295 [vP (5, i), vI (Int32.ofNat k)] s = rI c s := by
  obtain ⟨hl, rfl⟩ := List.getElem?_eq_some_iff.mp hk
  have hn := sm_by_n hi
  have hc := sm_by_c hi (List.getElem_mem hl)
  have hg : (sm_by i).getD k 0 = (sm_by i)[k] := by simp [List.getD, hl]
  rw [f_J0_charAt_5068e, q_J0_charAt_5068e_0, f_J0_isLatin1_aae02, q_J0_isLatin1_aae02_0]
  rw [bI_r, if_neg (by decide), f_J1_charAt_3b067, q_J1_charAt_3b067_0, j_check hl (by omega), bV_r, ix_nat hl (by omega), hg, (chr_ok hc.1 hc.2).1, bI_r, (chr_ok hc.1 hc.2).2]
/-! the index of a name in a text of names -/
def ixf : List Int32 → Int64 → Int32 → Int64 → Int32
  | [], _, _, _ => -1
  | c :: r, code, ix, v => if c = 32 then (if lg_cmp code v = 0 then ix else ixf r 0 (ix + 1) v) else ixf r ((code <<< ((7 : Int32).toInt64 &&& 63)) ||| c.toInt64) ix v
theorem c_indexIn_8 {i : Nat} (hi : i < 54) (v : Int64) : ∀ (n k : Nat) (code : Int64) (ix : Int32) (d2 d4 d7 : sm_V), k + n = (sm_by i).length → sm_go (sm_ZZ X) sm_PP true (sm_callM X true (d + 4)) 133 8 [vP (5, i), vL v, d2, vL code, d4, vI ix, vI (Int32.ofNat k), d7] [] s = rI (ixf ((sm_by i).drop k) code ix v) s
  | 0, k, code, ix, d2, d4, d7, h => by
    have hn := sm_by_n hi
    rw [q_X7_indexIn_8, j_length, bI_r, if_neg (by rw [i_lt (by omega) (by omega)]; omega), List.drop_eq_nil_of_le (by omega)]
    rfl
  | n + 1, k, code, ix, d2, d4, d7, h => by
    have hn := sm_by_n hi
    have hl : k < (sm_by i).length := by omega
    rw [q_X7_indexIn_8, j_length, bI_r, if_pos ((i_lt (by omega) (by omega)).mpr hl), j_charAt hi (List.getElem?_eq_getElem hl), bI_r, List.drop_eq_getElem_cons hl, ixf, i_s]
    by_cases h1 : (sm_by i)[k] = 32
    · rw [if_pos h1, if_pos h1]
      by_cases h2 : lg_cmp code v = 0
      · rw [if_pos h2, if_pos h2]
      · rw [if_neg h2, if_neg h2]
        exact c_indexIn_8 hi v n (k + 1) 0 (ix + 1) _ _ _ (by omega)
    · rw [if_neg h1, if_neg h1, sm_callM_eq (k := 134) (L := [vL code, vU, vI ((sm_by i)[k])]) (by decide) (Nat.le_of_ble_eq_true rfl) rfl, q_X7_withSign_0, bL_r]
      exact c_indexIn_8 hi v n (k + 1) _ ix _ _ _ (by omega)
theorem c_indexIn {i : Nat} (hi : i < 54) (v : Int64) : sm_callM X true (d + 5) 133 [vP (5, i), vL v] s = rI (ixf (sm_by i) 0 0 v) s := by
  rw [f_X7_indexIn, q_X7_indexIn_0]
  exact c_indexIn_8 hi v _ 0 0 0 _ _ _ (Nat.zero_add _)
/-! a name as a number -/
def pk8 : List Int32 → Int64 → Int64
  | [], a => a
  | c :: r, a => pk8 r ((a <<< ((8 : Int32).toInt64 &&& 63)) ||| c.toInt64)
def pk7 : List Int32 → Int64 → Int64
  | [], a => a
  | c :: r, a => pk7 r ((a <<< ((7 : Int32).toInt64 &&& 63)) ||| c.toInt64)
theorem m_packed_4 {i : Nat} (hi : i < 54) : ∀ (n k : Nat) (a : Int64) (d2 : sm_V), k + n = (sm_by i).length → sm_go (sm_ZZ X) sm_PP true (sm_callM X true (d + 4)) 191 4 [vP (5, i), vL a, d2, vI (Int32.ofNat k)] [] s = rL (pk8 ((sm_by i).drop k) a) s
  | 0, k, a, d2, h => by
    have hn := sm_by_n hi
    rw [q_X13_packed_4, j_length, bI_r, if_neg (by rw [i_lt (by omega) (by omega)]; omega), List.drop_eq_nil_of_le (by omega)]
    rfl
  | n + 1, k, a, d2, h => by
    have hn := sm_by_n hi
    have hl : k < (sm_by i).length := by omega
    rw [q_X13_packed_4, j_length, bI_r, if_pos ((i_lt (by omega) (by omega)).mpr hl), j_charAt hi (List.getElem?_eq_getElem hl), bI_r, List.drop_eq_getElem_cons hl, pk8, i_s]
    exact m_packed_4 hi n (k + 1) _ _ (by omega)
theorem m_packed {i : Nat} (hi : i < 54) : sm_callM X true (d + 5) 191 [vP (5, i)] s = rL (pk8 (sm_by i) 0) s := by
  rw [f_X13_packed, q_X13_packed_0]
  exact m_packed_4 hi _ 0 0 _ (Nat.zero_add _)
/-! a table of numbers is looked through -/
def lk : List Int64 → Int32 → Int64 → Int32
  | [], _, _ => -1
  | a :: r, i, v => if lg_cmp a v = 0 then i else lk r (i + 1) v
def wl7 (l : List Int32) : List Int64 := go l 0
where go : List Int32 → Int64 → List Int64
  | [], _ => []
  | c :: r, code => if c = 32 then code :: go r 0 else go r ((code <<< ((7 : Int32).toInt64 &&& 63)) ||| c.toInt64)
theorem ixf_lk (v : Int64) : ∀ (l : List Int32) (code : Int64) (ix : Int32), ixf l code ix v = lk (wl7.go l code) ix v
  | [], _, _ => rfl
  | c :: r, code, ix => by
    rw [ixf, wl7.go]
    by_cases h : c = 32
    · rw [if_pos h, if_pos h, lk]
      by_cases h2 : lg_cmp code v = 0
      · rw [if_pos h2, if_pos h2]
      · rw [if_neg h2, if_neg h2]
        exact ixf_lk v r 0 (ix + 1)
    · rw [if_neg h, if_neg h]
      exact ixf_lk v r _ ix
/-! the words of the language, both ways -/
def ltr (x : String) : List Int32 := x.toList.map (fun c => Int32.ofNat c.toNat)
def sm_words : List (List Int32) := (List.range 15).map (fun k => sm_by (6 + k))
def sm_kinds : List (List Int32) := (List.range 19).map (fun k => sm_by (21 + k))
def sm_fives : List (List Int32) := (List.range 5).map (fun k => sm_by (40 + k))
def sm_fields : List (List Int32) := (List.range 9).map (fun k => sm_by (45 + k))
theorem wl_words : wl7.go (sm_by 0) 0 = sm_words.map (fun l => pk7 l 0) := by decide +kernel
theorem wl_kinds : wl7.go (sm_by 1) 0 = sm_kinds.map (fun l => pk7 l 0) := by decide +kernel
end
