section
/-! ONE TOKEN, THE CLASS's SIDE -/
variable {X : Nat × (Nat → Int32)} {d : Nat} {s σ : sm_S}
/-- a token: its kind (as the class has it), its signs, its number, how long it is -/
def tok (R : Nat → Int32) (e p : Nat) : Int32 × List Int32 × Int64 × Nat :=
  if p < e then
    (if isSb (R p &&& 255) = true then
      (if 8 < rl isSD R e (e - p) p then (7, [], 0, rl isSD R e (e - p) p)
       else (if whr (seg R p (rl isSD R e (e - p) p)) sm_words 0 = -1 then 3 else 200 + whr (seg R p (rl isSD R e (e - p) p)) sm_words 0, seg R p (rl isSD R e (e - p) p), 0, rl isSD R e (e - p) p))
    else if isCb (R p &&& 255) = true then
      (if 8 < rl isCb R e (e - p) p then (7, [], 0, rl isCb R e (e - p) p)
       else if whr (seg R p (rl isCb R e (e - p) p)) sm_kinds 0 = -1 then (7, [], 0, rl isCb R e (e - p) p)
       else (5, [], (if whr (seg R p (rl isCb R e (e - p) p)) sm_kinds 0 = 18 then 36 else whr (seg R p (rl isCb R e (e - p) p)) sm_kinds 0).toInt64, rl isCb R e (e - p) p))
    else if isDb (R p &&& 255) = true then
      (if 9 < rl isDb R e (e - p) p ∨ (p + rl isDb R e (e - p) p < e ∧ (isSb (R (p + rl isDb R e (e - p) p) &&& 255) = true ∨ isCb (R (p + rl isDb R e (e - p) p) &&& 255) = true)) then (7, [], 0, rl isDb R e (e - p) p)
       else (4, [], dg (seg R p (rl isDb R e (e - p) p)) 0, rl isDb R e (e - p) p))
    else if (p + 1 < e ∧ R (p + 1) &&& 255 = 61) ∧ (R p &&& 255 = 61 ∨ R p &&& 255 = 33) then (if R p &&& 255 = 61 then 1 else 2, [], 0, 2)
    else if (sm_by 2).contains (R p &&& 255) = true then (R p &&& 255, [], 0, 1) else (7, [], 0, 1))
  else (6, [], 0, 0)
/-- a token's value in the class -/
def tvc (t : Int32 × List Int32 × Int64 × Nat) : Int64 := if t.1 = 3 ∨ 200 ≤ t.1 then pk7 t.2.1 0 else t.2.2.1
/-- the tape's state behind a token -/
def tN_ (σ : sm_S) (i p : Nat) (v : Int64) (q : Nat) : sm_S := sI (sL (sI σ 54 0 i (Int32.ofNat p)) 55 0 i v) 17 0 3 (Int32.ofNat q)
theorem sL_sL {σ : sm_S} {t i k : Nat} {v w : Int64} : sL (sL σ t i k v) t i k w = sL σ t i k w := by
  refine Prod.ext rfl (Prod.ext (funext fun t' => funext fun i' => funext fun k' => ?_) rfl)
  show (if t' = t ∧ i' = i ∧ k' = k then w else if t' = t ∧ i' = i ∧ k' = k then v else σ.2.1 t' i' k') = (if t' = t ∧ i' = i ∧ k' = k then w else σ.2.1 t' i' k')
  split <;> rfl
theorem sI_comm {σ : sm_S} {t i k t' i' k' : Nat} {v w : Int32} (h : ¬ (t = t' ∧ i = i' ∧ k = k')) : sI (sI σ t i k v) t' i' k' w = sI (sI σ t' i' k' w) t i k v := by
  refine Prod.ext (funext fun a => funext fun b => funext fun c => ?_) rfl
  show (if a = t' ∧ b = i' ∧ c = k' then w else if a = t ∧ b = i ∧ c = k then v else σ.1 a b c) = (if a = t ∧ b = i ∧ c = k then v else if a = t' ∧ b = i' ∧ c = k' then w else σ.1 a b c)
  by_cases h1 : a = t' ∧ b = i' ∧ c = k'
  · rw [if_pos h1, if_pos h1]
    by_cases h2 : a = t ∧ b = i ∧ c = k
    · exact absurd ⟨h2.1.symm.trans h1.1, h2.2.1.symm.trans h1.2.1, h2.2.2.symm.trans h1.2.2⟩ h
    · rw [if_neg h2]
  · rw [if_neg h1, if_neg h1]
theorem tN_0 {i p : Nat} : sL (sI (sI σ 17 0 3 (Int32.ofNat p)) 54 0 i (Int32.ofNat p)) 55 0 i 0 = tN_ σ i p 0 p := by
  rw [sI_comm (by omega)]; rfl
theorem tN_I {i p q q' : Nat} {v : Int64} : sI (tN_ σ i p v q) 17 0 3 (Int32.ofNat q') = tN_ σ i p v q' := sI_sI
theorem tN_L {i p q : Nat} {v v' : Int64} : sL (tN_ σ i p v q) 55 0 i v' = tN_ σ i p v' q := by
  show sI (sL (sL (sI σ 54 0 i (Int32.ofNat p)) 55 0 i v) 55 0 i v') 17 0 3 (Int32.ofNat q) = _
  rw [sL_sL]; rfl
theorem tp_N {R : Nat → Int32} {e k i p q : Nat} {v : Int64} (h : tp R e k σ) (hq : q ≤ e) : tp R e q (tN_ σ i p v q) := by
  obtain ⟨h1, h2, h3, h4, h5⟩ := h
  refine ⟨fun j => ?_, ?_, ?_, h4, hq⟩
  · rw [tN_, gI, if_neg (by omega), gLI, gI, if_neg (by omega)]; exact h1 j
  · rw [tN_, gI, if_neg (by omega), gLI, gI, if_neg (by omega)]; exact h2
  · rw [tN_, gI, if_pos ⟨rfl, rfl, rfl⟩]
theorem rl_le (p : Int32 → Bool) (R : Nat → Int32) (e : Nat) : ∀ f k, k ≤ e → k + rl p R e f k ≤ e
  | 0, k, h => h
  | f + 1, k, h => by
    rw [rl]
    split
    · next q => have := rl_le p R e f (k + 1) (by omega); omega
    · omega
theorem rl_pos {p : Int32 → Bool} {R : Nat → Int32} {e k : Nat} (h : k < e) (hp : p (R k &&& 255) = true) : 0 < rl p R e (e - k) k := by
  rw [show e - k = (e - k - 1) + 1 by omega, rl, if_pos ⟨h, hp⟩]; omega
theorem seg_all (p : Int32 → Bool) (R : Nat → Int32) (e : Nat) : ∀ f k, ∀ c ∈ seg R k (rl p R e f k), p c = true
  | 0, k, c, h => by cases h
  | f + 1, k, c, h => by
    rw [rl] at h
    split at h
    · next q =>
      rcases List.mem_cons.mp h with rfl | h
      · exact q.2
      · exact seg_all p R e f (k + 1) c h
    · cases h
theorem seg_len (R : Nat → Int32) : ∀ m k, (seg R k m).length = m
  | 0, k => rfl
  | m + 1, k => by rw [seg, List.length_cons, seg_len R m (k + 1)]
theorem isSD_ok {c : Int32} (h : isSD c = true) : 0 < c ∧ c < 128 := by
  unfold isSD isSb isDb at h
  simp only [Bool.or_eq_true, Bool.and_eq_true, Bool.not_eq_true', decide_eq_false_iff_not] at h
  simp only [Int32.lt_iff_toInt_lt] at h ⊢
  have e1 : (97 : Int32).toInt = 97 := rfl
  have e2 : (122 : Int32).toInt = 122 := rfl
  have e3 : (48 : Int32).toInt = 48 := rfl
  have e4 : (57 : Int32).toInt = 57 := rfl
  have e5 : (0 : Int32).toInt = 0 := rfl
  have e6 : (128 : Int32).toInt = 128 := rfl
  omega
theorem isCb_ok {c : Int32} (h : isCb c = true) : 0 < c ∧ c < 128 := by
  unfold isCb at h
  simp only [Bool.and_eq_true, Bool.not_eq_true', decide_eq_false_iff_not] at h
  simp only [Int32.lt_iff_toInt_lt] at h ⊢
  have e1 : (65 : Int32).toInt = 65 := rfl
  have e2 : (90 : Int32).toInt = 90 := rfl
  have e5 : (0 : Int32).toInt = 0 := rfl
  have e6 : (128 : Int32).toInt = 128 := rfl
  omega
theorem nm_SD {R : Nat → Int32} {e f k : Nat} (h : ¬ 8 < rl isSD R e f k) : nmOk (seg R k (rl isSD R e f k)) := ⟨by rw [seg_len]; omega, fun c hc => isSD_ok (seg_all _ _ _ _ _ c hc)⟩
theorem nm_C {R : Nat → Int32} {e f k : Nat} (h : ¬ 8 < rl isCb R e f k) : nmOk (seg R k (rl isCb R e f k)) := ⟨by rw [seg_len]; omega, fun c hc => isCb_ok (seg_all _ _ _ _ _ c hc)⟩
theorem i_sub {p m : Nat} : Int32.ofNat (p + m) - Int32.ofNat p = Int32.ofNat m := by
  rw [Int32.ofNat_add]
  apply Int32.toBitVec_inj.mp
  show (Int32.ofNat p).toBitVec + (Int32.ofNat m).toBitVec - (Int32.ofNat p).toBitVec = _
  rw [BitVec.add_comm, BitVec.add_sub_cancel]
theorem whr_ge (l : List Int32) : ∀ (ws : List (List Int32)) (i : Nat), i + ws.length < 1000 → whr l ws (Int32.ofNat i) = -1 ∨ ∃ j, i ≤ j ∧ j < i + ws.length ∧ whr l ws (Int32.ofNat i) = Int32.ofNat j
  | [], i, _ => Or.inl rfl
  | w :: r, i, h => by
    have h : i + (r.length + 1) < 1000 := h
    rw [whr]
    split
    · exact Or.inr ⟨i, Nat.le_refl _, by rw [List.length_cons]; omega, rfl⟩
    · rw [i_s]
      rcases whr_ge l r (i + 1) (by omega) with q | ⟨j, q1, q2, q3⟩
      · exact Or.inl q
      · exact Or.inr ⟨j, by omega, by rw [List.length_cons]; omega, q3⟩
/-- the signs, as the class looks for them -/
theorem j_indexOfChar {i : Nat} (hi : i < 54) (x : Int32) (s : sm_S) : ∀ (n k : Nat) (d1 d2 : sm_V), k + n = (sm_by i).length → (sm_go (sm_ZZ X) sm_PP true (sm_callM X true d) 304 7 [vP (7, i), d1, d2, vI (Int32.ofNat (sm_by i).length), vI x, vI (Int32.ofNat k)] [] s = rI (-1) s ∧ x ∉ (sm_by i).drop k) ∨ (∃ j, j < (sm_by i).length ∧ sm_go (sm_ZZ X) sm_PP true (sm_callM X true d) 304 7 [vP (7, i), d1, d2, vI (Int32.ofNat (sm_by i).length), vI x, vI (Int32.ofNat k)] [] s = rI (Int32.ofNat j) s ∧ x ∈ (sm_by i).drop k)
  | 0, k, d1, d2, h => by
    have hn := sm_by_n hi
    rw [q_J1_indexOfChar_4cfef_7, if_neg (by rw [i_lt (by omega) (by omega)]; omega), List.drop_eq_nil_of_le (by omega)]
    exact Or.inl ⟨rfl, List.not_mem_nil⟩
  | n + 1, k, d1, d2, h => by
    have hn := sm_by_n hi
    have hl : k < (sm_by i).length := by omega
    have hg : (sm_by i).getD k 0 = (sm_by i)[k] := by simp [List.getD, hl]
    rw [q_J1_indexOfChar_4cfef_7, if_pos ((i_lt (by omega) (by omega)).mpr hl), ix_nat hl (by omega), hg, List.drop_eq_getElem_cons hl]
    by_cases q : (sm_by i)[k] = x
    · rw [if_pos q]
      exact Or.inr ⟨k, hl, rfl, by rw [q]; exact List.mem_cons_self⟩
    · rw [if_neg q, i_s]
      rcases j_indexOfChar hi x s n (k + 1) vU vU (by omega) with ⟨g1, g2⟩ | ⟨j, g1, g2, g3⟩
      · exact Or.inl ⟨g1, fun z => (List.mem_cons.mp z).elim (fun z => q z.symm) g2⟩
      · exact Or.inr ⟨j, g1, g2, List.mem_cons_of_mem _ g3⟩
theorem i32_lt_of {x y : Int32} (h : x.toInt < y.toInt) : x < y := Int32.lt_iff_toInt_lt.mpr h
/-- a byte without its sign is a number below 256 -/
theorem b255 (x : Int32) : ∃ n, n < 256 ∧ x &&& 255 = Int32.ofNat n := by
  have e : (x &&& 255).toBitVec.toNat < 256 := by
    rw [Int32.toBitVec_and, BitVec.toNat_and]
    exact Nat.and_lt_two_pow _ (n := 8) (by decide)
  refine ⟨(x &&& 255).toBitVec.toNat, e, ?_⟩
  apply Int32.toBitVec_inj.mp
  apply BitVec.eq_of_toNat_eq
  show _ = (BitVec.ofNat 32 _).toNat
  rw [BitVec.toNat_ofNat, Nat.mod_eq_of_lt (by omega)]
theorem chr16 : ∀ n, n < 256 → UInt32.toInt32 (Int32.toUInt32 (Int32.ofNat n) % 65536) = Int32.ofNat n := by decide +kernel
theorem enc16 : ∀ n, n < 256 → (¬ Int32.ofNat n < 0 ∧ ¬ 255 < Int32.ofNat n) := by decide +kernel
theorem sgn_in : ∀ n, n < 256 → ((sm_by 2).contains (Int8.toInt32 (Int32.toInt8 (Int32.ofNat n))) = (sm_by 2).contains (Int32.ofNat n)) := by decide +kernel
theorem j_max (x y : Int32) : sm_callM X true (d + 1) 306 [vI x, vI y] s = rI (if x < y then y else x) s := by
  rw [f_J9_max_7cf53, q_J9_max_7cf53_0]
  repeat' split
  all_goals rfl
theorem j_min (x y : Int32) : sm_callM X true (d + 1) 307 [vI x, vI y] s = rI (if y < x then y else x) s := by
  rw [f_J9_min_7cf53, q_J9_min_7cf53_0]
  repeat' split
  all_goals rfl
/-- SIGNS.indexOf -/
theorem c_signs (x : Int32) : ∃ y, sm_callM X true (d + 4) 296 [vP (5, 2), vI (UInt32.toInt32 (Int32.toUInt32 (x &&& 255) % 65536))] s = rI y s ∧ (y = -1 ↔ (sm_by 2).contains (x &&& 255) = false) := by
  obtain ⟨n, hn, e⟩ := b255 x
  rw [e, chr16 n hn, f_J0_indexOf_0f7a4, q_J0_indexOf_0f7a4_0, f_J0_indexOf_7cf53, q_J0_indexOf_7cf53_0, f_J0_isLatin1_aae02, q_J0_isLatin1_aae02_0, bI_r, if_neg (by decide), j_length, bI_r, f_J1_indexOf_4cfef, q_J1_indexOf_4cfef_0, f_J1_canEncode_9a6ad, q_J1_canEncode_9a6ad_0, if_neg (enc16 n hn).1, if_neg (enc16 n hn).2, bI_r, if_neg (by decide), j_max, bI_r, j_min, bI_r]
  have e15 : (sm_by 2).length = 15 := rfl
  rw [show (if (0 : Int32) < 0 then (0 : Int32) else 0) = 0 from if_neg (by decide), show (if Int32.ofNat (sm_by 2).length < Int32.ofNat (sm_by 2).length then Int32.ofNat (sm_by 2).length else Int32.ofNat (sm_by 2).length) = Int32.ofNat (sm_by 2).length from if_neg (by decide), if_pos (by decide), f_J1_indexOfChar_4cfef, q_J1_indexOfChar_4cfef_0]
  have hs := sgn_in n hn
  rcases j_indexOfChar (X := X) (d := d) (i := 2) (by decide) (Int8.toInt32 (Int32.toInt8 (Int32.ofNat n))) s 15 0 (vI (Int32.ofNat n)) (vI 0) rfl with ⟨g1, g2⟩ | ⟨j, g1, g2, g3⟩
  · refine ⟨-1, ?_, fun _ => ?_, fun _ => rfl⟩
    · have g1 : sm_go (sm_ZZ X) sm_PP true (sm_callM X true d) 304 7 [vP (7, 2), vI (Int32.ofNat n), vI 0, vI (Int32.ofNat (sm_by 2).length), vI (Int8.toInt32 (Int32.toInt8 (Int32.ofNat n))), vI 0] [] s = rI (-1) s := g1
      rw [g1]; rfl
    · rw [← hs]
      simpa using g2
  · refine ⟨Int32.ofNat j, ?_, fun h => ?_, fun h => ?_⟩
    · have g2 : sm_go (sm_ZZ X) sm_PP true (sm_callM X true d) 304 7 [vP (7, 2), vI (Int32.ofNat n), vI 0, vI (Int32.ofNat (sm_by 2).length), vI (Int8.toInt32 (Int32.toInt8 (Int32.ofNat n))), vI 0] [] s = rI (Int32.ofNat j) s := g2
      rw [g2]; rfl
    · exfalso
      have h1 : j < 15 := g1
      have h2 := i_nn (a := j) (by omega)
      rw [h] at h2
      exact h2 (by decide)
    · exfalso
      rw [← hs] at h
      have g3 : Int8.toInt32 (Int32.toInt8 (Int32.ofNat n)) ∈ sm_by 2 := g3
      rw [List.contains_iff_mem.mpr g3] at h
      cases h
/-- ONE TOKEN IS CUT -/
theorem c_cutToken {R : Nat → Int32} {e k i : Nat} (h : tp R e k σ) (hi : i < 802) :
    ∃ v, sm_callM X true (d + 7) 139 [vP (17, 0), vI (Int32.ofNat i)] σ = rI (tok R e (k + rl isBl R e (e - k) k)).1 (tN_ σ i (k + rl isBl R e (e - k) k) v (k + rl isBl R e (e - k) k + (tok R e (k + rl isBl R e (e - k) k)).2.2.2)) ∧
      ((tok R e (k + rl isBl R e (e - k) k)).1 ≠ 7 → v = tvc (tok R e (k + rl isBl R e (e - k) k))) := by
  have hk : k ≤ e := h.2.2.2.2
  have he : e ≤ 3000 := h.2.2.2.1
  have hp := rl_le isBl R e (e - k) k hk
  rw [f_X7_cutToken, c_skip _ (e - k) k σ h (by omega)]
  generalize k + rl isBl R e (e - k) k = p at hp
  have h1 : tp R e p (sI σ 17 0 3 (Int32.ofNat p)) := tp_at h hp
  rw [q_X7_cutToken_42, ix_nat hi (by decide), ix_nat hi (by decide), h1.2.2.1, tN_0]
  have h2 : tp R e p (tN_ σ i p 0 p) := tp_N h hp
  rw [h2.2.1, h2.2.2.1]
  unfold tok
  by_cases q : p < e
  · rw [if_pos ((i_lt (by omega) (by omega)).mpr q), if_pos q, c_sign h2, bI_r, if_pos q, c_isSmall, bI_r]
    by_cases q1 : isSb (R p &&& 255) = true
    · rw [if_neg (by rw [q1]; decide), if_pos q1, f_X7_cutSmall, q_X7_cutSmall_0, c_small_7 _ _ (e - p) p _ _ _ _ h2 (by omega), tN_I, q_X7_cutSmall_60, (tp_N (i := i) (p := p) (v := 0) h (rl_le isSD R e (e - p) p hp)).2.2.1, h2.2.2.1, i_sub]
      have hm := rl_le isSD R e (e - p) p hp
      by_cases q2 : 8 < rl isSD R e (e - p) p
      · rw [if_pos (by rw [show (8 : Int32) = Int32.ofNat 8 from rfl, i_lt (by omega) (by omega)]; exact q2), bI_r, if_pos q2]
        exact ⟨0, rfl, fun z => absurd rfl z⟩
      · rw [if_neg (by rw [show (8 : Int32) = Int32.ofNat 8 from rfl, i_lt (by omega) (by omega)]; exact q2), if_neg q2, ix_nat hi (by decide), tN_L, c_words (nm_SD q2), bI_r]
        refine ⟨pk7 (seg R p (rl isSD R e (e - p) p)) 0, ?_, fun _ => ?_⟩
        · by_cases q3 : whr (seg R p (rl isSD R e (e - p) p)) sm_words 0 = -1
          · rw [if_pos q3, bI_r, if_pos q3]
          · rw [if_neg q3, bI_r, if_neg q3]
        · unfold tvc
          rw [if_pos]
          dsimp only
          by_cases q3 : whr (seg R p (rl isSD R e (e - p) p)) sm_words 0 = -1
          · rw [if_pos q3]; exact Or.inl rfl
          · rw [if_neg q3]
            rcases whr_ge (seg R p (rl isSD R e (e - p) p)) sm_words 0 (by decide) with z | ⟨j, z1, z2, z3⟩
            · exact absurd z q3
            · have z3 : whr (seg R p (rl isSD R e (e - p) p)) sm_words 0 = Int32.ofNat j := z3
              have z2 : j < 0 + 15 := z2
              right
              rw [z3, show (200 : Int32) + Int32.ofNat j = Int32.ofNat (200 + j) by rw [Int32.ofNat_add]; rfl, show (200 : Int32) = Int32.ofNat 200 from rfl, i_le (by omega) (by omega)]
              omega
    · rw [if_pos (bi_0.mpr (by simpa using q1)), if_neg q1, c_sign h2, bI_r, if_pos q, c_isCapital, bI_r]
      by_cases q2 : isCb (R p &&& 255) = true
      · rw [if_neg (by rw [q2]; decide), if_pos q2, f_X7_cutCapitals, q_X7_cutCapitals_0, c_cap_7 _ _ (e - p) p _ _ _ _ h2 (by omega), tN_I, q_X7_cutCapitals_50, c_indexIn (by decide), bI_r, (tp_N (i := i) (p := p) (v := 0) h (rl_le isCb R e (e - p) p hp)).2.2.1, h2.2.2.1, i_sub]
        have hm := rl_le isCb R e (e - p) p hp
        by_cases q3 : 8 < rl isCb R e (e - p) p
        · rw [if_pos q3, if_pos (show 8 < Int32.ofNat (rl isCb R e (e - p) p) by rw [show (8 : Int32) = Int32.ofNat 8 from rfl, i_lt (by omega) (by omega)]; exact q3)]
          refine ⟨0, ?_, fun z => absurd rfl z⟩
          split <;> rfl
        · rw [ixf_lk, wl_kinds, lk7 (nm_C q3) _ _ ok_kinds, if_neg q3, if_neg (show ¬ 8 < Int32.ofNat (rl isCb R e (e - p) p) by rw [show (8 : Int32) = Int32.ofNat 8 from rfl, i_lt (by omega) (by omega)]; exact q3)]
          by_cases q4 : whr (seg R p (rl isCb R e (e - p) p)) sm_kinds 0 = -1
          · rw [if_pos q4, if_pos q4, bI_r]
            exact ⟨0, rfl, fun z => absurd rfl z⟩
          · rw [if_neg q4, if_neg q4, ix_nat hi (by decide), ix_nat hi (by decide), tN_L, tN_L]
            refine ⟨_, ?_, fun _ => (if_neg (show ¬ ((5 : Int32) = 3 ∨ (200 : Int32) ≤ 5) by decide)).symm⟩
            by_cases q5 : whr (seg R p (rl isCb R e (e - p) p)) sm_kinds 0 = 18
            · rw [if_pos q5, if_pos q5]; rfl
            · rw [if_neg q5, if_neg q5]; rfl
      · rw [if_pos (bi_0.mpr (by simpa using q2)), if_neg q2, c_sign h2, bI_r, if_pos q, c_isDigit, bI_r]
        by_cases q3 : isDb (R p &&& 255) = true
        · rw [if_neg (by rw [q3]; decide), if_pos q3, f_X7_cutNumber, q_X7_cutNumber_0, c_num_7 _ _ (e - p) p _ _ _ _ h2 (by omega), tN_I, q_X7_cutNumber_56, ix_nat hi (by decide), tN_L]
          have hm := rl_le isDb R e (e - p) p hp
          have h3 := tp_N (i := i) (p := p) (v := dg (seg R p (rl isDb R e (e - p) p)) 0) h hm
          refine ⟨dg (seg R p (rl isDb R e (e - p) p)) 0, ?_, fun z => ?_⟩
          · have t88 : ∀ x, sm_go (sm_ZZ X) sm_PP true (sm_callM X true (d + 5)) 142 88 [vP (17, 0), vI (Int32.ofNat i), vI (Int32.ofNat p), vL (dg (seg R p (rl isDb R e (e - p) p)) 0), vU, vU] [vI x] (tN_ σ i p (dg (seg R p (rl isDb R e (e - p) p)) 0) (p + rl isDb R e (e - p) p)) = rI (if x = 0 then (if 9 < rl isDb R e (e - p) p then 7 else 4) else 7) (tN_ σ i p (dg (seg R p (rl isDb R e (e - p) p)) 0) (p + rl isDb R e (e - p) p)) := fun x => by
              rw [q_X7_cutNumber_88, h3.2.2.1, i_sub]
              by_cases x0 : x = 0
              · rw [if_pos x0, if_pos x0]
                by_cases x1 : 9 < rl isDb R e (e - p) p
                · rw [if_pos x1, if_pos (by rw [show (9 : Int32) = Int32.ofNat 9 from rfl, i_lt (by omega) (by omega)]; exact x1)]
                · rw [if_neg x1, if_neg (by rw [show (9 : Int32) = Int32.ofNat 9 from rfl, i_lt (by omega) (by omega)]; exact x1)]
              · rw [if_neg x0, if_neg x0]
            have key : (isSb (if p + rl isDb R e (e - p) p < e then R (p + rl isDb R e (e - p) p) &&& 255 else 0) = true ∨ isCb (if p + rl isDb R e (e - p) p < e then R (p + rl isDb R e (e - p) p) &&& 255 else 0) = true) ↔ (p + rl isDb R e (e - p) p < e ∧ (isSb (R (p + rl isDb R e (e - p) p) &&& 255) = true ∨ isCb (R (p + rl isDb R e (e - p) p) &&& 255) = true)) := by
              by_cases z : p + rl isDb R e (e - p) p < e
              · rw [if_pos z]; simp [z]
              · rw [if_neg z]
                constructor
                · rintro (w | w) <;> exact absurd w (by decide)
                · intro w; exact absurd w.1 z
            rw [h2.2.2.1, c_sign h3, bI_r, c_isSmall, bI_r]
            by_cases a1 : isSb (if p + rl isDb R e (e - p) p < e then R (p + rl isDb R e (e - p) p) &&& 255 else 0) = true
            · rw [if_neg (by rw [a1]; decide), t88, bI_r, if_neg (by decide), if_pos (Or.inr (key.mp (Or.inl a1)))]
            · rw [if_pos (bi_0.mpr (by simpa using a1)), c_sign h3, bI_r, c_isCapital, bI_r]
              by_cases a2 : isCb (if p + rl isDb R e (e - p) p < e then R (p + rl isDb R e (e - p) p) &&& 255 else 0) = true
              · rw [if_neg (by rw [a2]; decide), t88, bI_r, if_neg (by decide), if_pos (Or.inr (key.mp (Or.inr a2)))]
              · rw [if_pos (bi_0.mpr (by simpa using a2)), t88, bI_r, if_pos rfl]
                by_cases a3 : 9 < rl isDb R e (e - p) p
                · rw [if_pos a3, if_pos (Or.inl a3)]
                · rw [if_neg a3, if_neg (fun w => w.elim a3 (fun w => (key.mpr w).elim a1 a2))]
          · by_cases w : 9 < rl isDb R e (e - p) p ∨ (p + rl isDb R e (e - p) p < e ∧ (isSb (R (p + rl isDb R e (e - p) p) &&& 255) = true ∨ isCb (R (p + rl isDb R e (e - p) p) &&& 255) = true))
            · rw [if_pos w] at z; exact absurd rfl z
            · rw [if_neg w]
              exact (if_neg (show ¬ ((4 : Int32) = 3 ∨ (200 : Int32) ≤ 4) by decide)).symm
        · rw [if_pos (bi_0.mpr (by simpa using q3)), if_neg q3, f_X7_cutSign, q_X7_cutSign_0, c_sign h2, bI_r, if_pos q, h2.2.2.1, i_s, tN_I]
          have h3 : tp R e (p + 1) (tN_ σ i p 0 (p + 1)) := tp_N h (by omega)
          have s36 : ∀ x, sm_go (sm_ZZ X) sm_PP true (sm_callM X true (d + 5)) 143 36 [vP (17, 0), vI x] [] (tN_ σ i p 0 (p + 1)) = rI (if x = 61 then 1 else 2) (tN_ σ i p 0 (p + 2)) := fun x => by
            rw [q_X7_cutSign_36, h3.2.2.1, i_s, tN_I]
            split <;> rfl
          have s58 : sm_go (sm_ZZ X) sm_PP true (sm_callM X true (d + 5)) 143 58 [vP (17, 0), vI (R p &&& 255)] [] (tN_ σ i p 0 (p + 1)) = rI (if (sm_by 2).contains (R p &&& 255) = true then R p &&& 255 else 7) (tN_ σ i p 0 (p + 1)) := by
            obtain ⟨y, y1, y2⟩ := c_signs (X := X) (d := d + 1) (s := tN_ σ i p 0 (p + 1)) (R p)
            rw [q_X7_cutSign_58, y1, bI_r]
            by_cases z : y = -1
            · rw [if_pos z, if_neg (by rw [y2.mp z]; decide)]
            · rw [if_neg z, if_pos (by cases w : (sm_by 2).contains (R p &&& 255) with | true => rfl | false => exact absurd (y2.mpr w) z)]
          have hc : ∀ c ∈ sm_by 2, ¬ (c = 3 ∨ (200 : Int32) ≤ c) := by decide +kernel
          refine ⟨0, ?_, fun z => ?_⟩
          · rw [c_sign h3, bI_r]
            have key : ((if p + 1 < e then R (p + 1) &&& 255 else 0) = 61) ↔ (p + 1 < e ∧ R (p + 1) &&& 255 = 61) := by
              by_cases z : p + 1 < e
              · rw [if_pos z]; simp [z]
              · rw [if_neg z]
                constructor
                · intro w; exact absurd w (by decide)
                · intro w; exact absurd w.1 z
            by_cases a1 : (if p + 1 < e then R (p + 1) &&& 255 else 0) = 61
            · rw [if_pos a1]
              by_cases a2 : R p &&& 255 = 61
              · rw [if_pos a2, s36, bI_r, if_pos (show (p + 1 < e ∧ R (p + 1) &&& 255 = 61) ∧ (R p &&& 255 = 61 ∨ R p &&& 255 = 33) from ⟨key.mp a1, Or.inl a2⟩)]
              · rw [if_neg a2]
                by_cases a3 : R p &&& 255 = 33
                · rw [if_pos a3, s36, bI_r, if_pos (show (p + 1 < e ∧ R (p + 1) &&& 255 = 61) ∧ (R p &&& 255 = 61 ∨ R p &&& 255 = 33) from ⟨key.mp a1, Or.inr a3⟩)]
                · rw [if_neg a3, s58, bI_r, if_neg (show ¬ ((p + 1 < e ∧ R (p + 1) &&& 255 = 61) ∧ (R p &&& 255 = 61 ∨ R p &&& 255 = 33)) from fun w => w.2.elim a2 a3)]
                  split <;> rfl
            · rw [if_neg a1, s58, bI_r, if_neg (show ¬ ((p + 1 < e ∧ R (p + 1) &&& 255 = 61) ∧ (R p &&& 255 = 61 ∨ R p &&& 255 = 33)) from fun w => a1 (key.mpr w.1))]
              split <;> rfl
          · unfold tvc
            rw [if_neg]
            · repeat' split
              all_goals rfl
            · by_cases a1 : (p + 1 < e ∧ R (p + 1) &&& 255 = 61) ∧ (R p &&& 255 = 61 ∨ R p &&& 255 = 33)
              · rw [if_pos a1]
                show ¬ ((if R p &&& 255 = 61 then (1 : Int32) else 2) = 3 ∨ (200 : Int32) ≤ (if R p &&& 255 = 61 then (1 : Int32) else 2))
                split <;> decide
              · rw [if_neg a1]
                by_cases a2 : (sm_by 2).contains (R p &&& 255) = true
                · rw [if_pos a2]
                  exact hc _ (List.contains_iff_mem.mp a2)
                · rw [if_neg a2]
                  show ¬ ((7 : Int32) = 3 ∨ (200 : Int32) ≤ 7)
                  decide
  · rw [if_neg (fun z => q ((i_lt (by omega) (by omega)).mp z)), if_neg q]
    exact ⟨0, rfl, fun _ => rfl⟩
end
