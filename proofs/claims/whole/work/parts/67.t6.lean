section
/-! WORDS, KINDS, THE FIVE, FIELDS: where a name stands among them -/
variable {X : Nat × (Nat → Int32)} {d : Nat} {s : sm_S}
theorem wl_fives : wl7.go (sm_by 3) 0 = sm_fives.map (fun l => pk7 l 0) := by decide +kernel
theorem wl_fields : wl7.go (sm_by 4) 0 = sm_fields.map (fun l => pk7 l 0) := by decide +kernel
def nmOkb (l : List Int32) : Bool := decide (l.length ≤ 8) && l.all (fun c => decide (0 < c) && decide (c < 128))
theorem nmOk_of {l : List Int32} (h : nmOkb l = true) : nmOk l := by
  unfold nmOkb at h
  rw [Bool.and_eq_true] at h
  refine ⟨of_decide_eq_true h.1, fun c hc => ?_⟩
  have := List.all_eq_true.mp h.2 c hc
  rw [Bool.and_eq_true] at this
  exact ⟨of_decide_eq_true this.1, of_decide_eq_true this.2⟩
theorem ok_all {ws : List (List Int32)} (h : ws.all nmOkb = true) : ∀ w ∈ ws, nmOk w := fun w hw => nmOk_of (List.all_eq_true.mp h w hw)
theorem ok_words : ∀ w ∈ sm_words, nmOk w := ok_all (by decide +kernel)
theorem ok_kinds : ∀ w ∈ sm_kinds, nmOk w := ok_all (by decide +kernel)
theorem ok_fives : ∀ w ∈ sm_fives, nmOk w := ok_all (by decide +kernel)
theorem ok_fields : ∀ w ∈ sm_fields, nmOk w := ok_all (by decide +kernel)
theorem c_words {l : List Int32} (hl : nmOk l) : sm_callM X true (d + 5) 133 [vP (5, 0), vL (pk7 l 0)] s = rI (whr l sm_words 0) s := by
  rw [c_indexIn (by decide), ixf_lk, wl_words, lk7 hl _ _ ok_words]
theorem c_kinds {l : List Int32} (hl : nmOk l) : sm_callM X true (d + 5) 133 [vP (5, 1), vL (pk7 l 0)] s = rI (whr l sm_kinds 0) s := by
  rw [c_indexIn (by decide), ixf_lk, wl_kinds, lk7 hl _ _ ok_kinds]
theorem c_fives {l : List Int32} (hl : nmOk l) : sm_callM X true (d + 5) 133 [vP (5, 3), vL (pk7 l 0)] s = rI (whr l sm_fives 0) s := by
  rw [c_indexIn (by decide), ixf_lk, wl_fives, lk7 hl _ _ ok_fives]
theorem c_fields {l : List Int32} (hl : nmOk l) : sm_callM X true (d + 5) 133 [vP (5, 4), vL (pk7 l 0)] s = rI (whr l sm_fields 0) s := by
  rw [c_indexIn (by decide), ixf_lk, wl_fields, lk7 hl _ _ ok_fields]
theorem m_word {k : Nat} (hk : k < 15) : sm_callM X true (d + 1) 193 [vI (Int32.ofNat k)] s = rP (5, 6 + k) s := by
  rw [f_X13_word, q_X13_word_0]
  match k, hk with
  | 0, _ | 1, _ | 2, _ | 3, _ | 4, _ | 5, _ | 6, _ | 7, _ | 8, _ | 9, _ | 10, _ | 11, _ | 12, _ | 13, _ | 14, _ => rfl
  | k + 15, h => omega
theorem m_kindName {k : Nat} (hk : k < 18) : sm_callM X true (d + 1) 194 [vI (Int32.ofNat k)] s = rP (5, 21 + k) s := by
  rw [f_X13_kindName, q_X13_kindName_0]
  match k, hk with
  | 0, _ | 1, _ | 2, _ | 3, _ | 4, _ | 5, _ | 6, _ | 7, _ | 8, _ | 9, _ | 10, _ | 11, _ | 12, _ | 13, _ | 14, _ | 15, _ | 16, _ | 17, _ => rfl
  | k + 18, h => omega
theorem words_at {k : Nat} (hk : k < 15) : sm_words.drop k = sm_by (6 + k) :: sm_words.drop (k + 1) := by
  have hl : k < sm_words.length := hk
  rw [List.drop_eq_getElem_cons hl]
  simp [sm_words]
theorem kinds_at {k : Nat} (hk : k < 19) : sm_kinds.drop k = sm_by (21 + k) :: sm_kinds.drop (k + 1) := by
  have hl : k < sm_kinds.length := hk
  rw [List.drop_eq_getElem_cons hl]
  simp [sm_kinds]
theorem fields_at {k : Nat} (hk : k < 9) : sm_fields.drop k = sm_by (45 + k) :: sm_fields.drop (k + 1) := by
  have hl : k < sm_fields.length := hk
  rw [List.drop_eq_getElem_cons hl]
  simp [sm_fields]
theorem m_wordOf_2 (v : Int64) : ∀ (n k : Nat) (d1 : sm_V), k + n = 15 → sm_go (sm_ZZ X) sm_PP true (sm_callM X true (d + 5)) 192 2 [vL v, d1, vI (Int32.ofNat k)] [] s = rI (lk ((sm_words.drop k).map (fun w => pk8 w 0)) (Int32.ofNat k) v) s
  | 0, k, d1, h => by
    rw [q_X13_wordOf_2, if_neg (by rw [show (15 : Int32) = Int32.ofNat 15 from rfl, i_lt (by omega) (by omega)]; omega), List.drop_eq_nil_of_le (by show 15 ≤ k; omega)]
    rfl
  | n + 1, k, d1, h => by
    rw [q_X13_wordOf_2, if_pos (by rw [show (15 : Int32) = Int32.ofNat 15 from rfl, i_lt (by omega) (by omega)]; omega), m_word (by omega), bP_r, m_packed (by omega), bL_r, words_at (by omega), List.map_cons, lk, i_s]
    by_cases q : lg_cmp (pk8 (sm_by (6 + k)) 0) v = 0
    · rw [if_pos q, if_pos q]
    · rw [if_neg q, if_neg q]
      exact m_wordOf_2 v n (k + 1) _ (by omega)
theorem m_wordOf {l : List Int32} (hl : nmOk l) : sm_callM X true (d + 6) 192 [vL (pk8 l 0)] s = rI (whr l sm_words 0) s := by
  rw [f_X13_wordOf, q_X13_wordOf_0, ← lk8 hl _ _ ok_words]
  exact m_wordOf_2 _ 15 0 _ rfl
theorem m_kindOf_44 (v : Int64) : ∀ (n k : Nat) (d0 d1 d2 d4 : sm_V), k + n = 18 → sm_go (sm_ZZ X) sm_PP true (sm_callM X true (d + 5)) 195 44 [d0, d1, d2, vL v, d4, vI (Int32.ofNat k)] [] s = rI (if lk ((sm_kinds.drop k).map (fun w => pk8 w 0)) (Int32.ofNat k) v = 18 then 36 else lk ((sm_kinds.drop k).map (fun w => pk8 w 0)) (Int32.ofNat k) v) s
  | 0, k, d0, d1, d2, d4, h => by
    have hk : k = 18 := by omega
    subst hk
    rw [q_X13_kindOf_44, if_neg (by decide), m_packed (by decide), bL_r, kinds_at (by decide), List.map_cons, lk]
    show (if lg_cmp (pk8 (sm_by 39) 0) v = 0 then _ else _) = rI (if (if lg_cmp (pk8 (sm_by 39) 0) v = 0 then _ else _) = 18 then 36 else (if lg_cmp (pk8 (sm_by 39) 0) v = 0 then _ else _)) s
    by_cases q : lg_cmp (pk8 (sm_by 39) 0) v = 0
    · rw [if_pos q, if_pos q]; rfl
    · rw [if_neg q, if_neg q]; rfl
  | n + 1, k, d0, d1, d2, d4, h => by
    rw [q_X13_kindOf_44, if_pos (by rw [show (18 : Int32) = Int32.ofNat 18 from rfl, i_lt (by omega) (by omega)]; omega), m_kindName (by omega), bP_r, m_packed (by omega), bL_r, kinds_at (by omega), List.map_cons, lk, i_s]
    by_cases q : lg_cmp (pk8 (sm_by (21 + k)) 0) v = 0
    · rw [if_pos q, if_pos q, if_neg (by rw [show (18 : Int32) = Int32.ofNat 18 from rfl, i_eq (by omega) (by omega)]; omega)]
    · rw [if_neg q, if_neg q]
      exact m_kindOf_44 v n (k + 1) _ _ _ _ (by omega)
theorem m_five {l : List Int32} (hl : nmOk l) : sm_callM X true (d + 6) 209 [vL (pk8 l 0)] s = rI (whr l sm_fives 12) s := by
  have e : ∀ i, i < 54 → nmOk (sm_by i) → (lg_cmp (pk8 l 0) (pk8 (sm_by i) 0) = 0 ↔ sm_by i = l) := fun i hi h => by
    rw [lgc, pk8_inj hl h]
    exact eq_comm
  have w : sm_fives = [sm_by 40, sm_by 41, sm_by 42, sm_by 43, sm_by 44] := rfl
  rw [f_X13_five, q_X13_five_0, m_packed (by decide), bL_r, w]
  simp only [whr]
  have e40 := e 40 (by decide) (ok_fives _ (by rw [w]; simp))
  have e41 := e 41 (by decide) (ok_fives _ (by rw [w]; simp))
  have e42 := e 42 (by decide) (ok_fives _ (by rw [w]; simp))
  have e43 := e 43 (by decide) (ok_fives _ (by rw [w]; simp))
  have e44 := e 44 (by decide) (ok_fives _ (by rw [w]; simp))
  by_cases h0 : sm_by 40 = l
  · rw [if_pos (e40.mpr h0), if_pos h0]
  rw [if_neg (fun q => h0 (e40.mp q)), if_neg h0, m_packed (by decide), bL_r]
  by_cases h1 : sm_by 41 = l
  · rw [if_pos (e41.mpr h1), if_pos h1]; rfl
  rw [if_neg (fun q => h1 (e41.mp q)), if_neg h1, m_packed (by decide), bL_r]
  by_cases h2 : sm_by 42 = l
  · rw [if_pos (e42.mpr h2), if_pos h2]; rfl
  rw [if_neg (fun q => h2 (e42.mp q)), if_neg h2, m_packed (by decide), bL_r]
  by_cases h3 : sm_by 43 = l
  · rw [if_pos (e43.mpr h3), if_pos h3]; rfl
  rw [if_neg (fun q => h3 (e43.mp q)), if_neg h3, m_packed (by decide), bL_r]
  by_cases h4 : sm_by 44 = l
  · rw [if_pos (e44.mpr h4), if_pos h4]; rfl
  rw [if_neg (fun q => h4 (e44.mp q)), if_neg h4]
theorem m_fieldOf_6 (v : Int64) : ∀ (n k : Nat) (d1 d2 : sm_V), k + n = 9 → sm_go (sm_ZZ X) sm_PP true (sm_callM X true (d + 5)) 242 6 [vL v, d1, d2, vI (Int32.ofNat k)] [] s = rI (lk ((sm_fields.drop k).map (fun w => pk8 w 0)) (Int32.ofNat k) v) s
  | 0, k, d1, d2, h => by
    rw [q_X13_fieldOf_6, if_neg (by rw [show (9 : Int32) = Int32.ofNat 9 from rfl, i_lt (by omega) (by omega)]; omega), List.drop_eq_nil_of_le (by show 9 ≤ k; omega)]
    rfl
  | n + 1, k, d1, d2, h => by
    have key : sm_go (sm_ZZ X) sm_PP true (sm_callM X true (d + 5)) 242 6 [vL v, d1, d2, vI (Int32.ofNat k)] [] s = sm_go (sm_ZZ X) sm_PP true (sm_callM X true (d + 5)) 242 104 [vL v, vU, vU, vI (Int32.ofNat k)] [vP (5, 45 + k)] s := by
      rw [q_X13_fieldOf_6, if_pos (by rw [show (9 : Int32) = Int32.ofNat 9 from rfl, i_lt (by omega) (by omega)]; omega)]
      match k, h with
      | 0, _ | 1, _ | 2, _ | 3, _ | 4, _ | 5, _ | 6, _ | 7, _ | 8, _ => rfl
      | k + 9, h => omega
    rw [key, q_X13_fieldOf_104, m_packed (by omega), bL_r, fields_at (by omega), List.map_cons, lk, i_s]
    by_cases q : lg_cmp (pk8 (sm_by (45 + k)) 0) v = 0
    · rw [if_pos q, if_pos q]
    · rw [if_neg q, if_neg q]
      exact m_fieldOf_6 v n (k + 1) _ _ (by omega)
theorem m_fieldOf {l : List Int32} (hl : nmOk l) : sm_callM X true (d + 6) 242 [vL (pk8 l 0)] s = rI (whr l sm_fields 0) s := by
  rw [f_X13_fieldOf, q_X13_fieldOf_0, ← lk8 hl _ _ ok_fields]
  exact m_fieldOf_6 _ 9 0 _ _ rfl
end
