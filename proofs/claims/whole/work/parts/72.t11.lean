section
variable {X : Nat × (Nat → Int32)} {d : Nat} {s σ : sm_S}
/-! capitals -/
theorem raw_d : ∀ m : Nat, m < 256 → (Int32.ofInt ((m : Int) - 128) &&& 255 < 128 → Int32.ofInt ((m : Int) - 128) &&& 255 = Int32.ofInt ((m : Int) - 128)) := by decide +kernel
theorem raw_ok {x : Int32} (h : -128 ≤ x ∧ x ≤ 127) (h2 : x &&& 255 < 128) : x &&& 255 = x := by
  have e1 := Int32.le_iff_toInt_le.mp h.1
  have e2 := Int32.le_iff_toInt_le.mp h.2
  have e3 : (-128 : Int32).toInt = -128 := rfl
  have e4 : (127 : Int32).toInt = 127 := rfl
  rw [e3] at e1
  rw [e4] at e2
  have key := raw_d (x.toInt + 128).toNat (by omega)
  have e5 : Int32.ofInt ((((x.toInt + 128).toNat : Nat) : Int) - 128) = x := by
    rw [show (((x.toInt + 128).toNat : Nat) : Int) - 128 = x.toInt by omega]
    exact Int32.ofInt_toInt x
  rw [e5] at key
  exact key h2
/-- the bytes of a tape -/
def b8 (R : Nat → Int32) : Prop := ∀ j, -128 ≤ R j ∧ R j ≤ 127
theorem seg_eq {R : Nat → Int32} (hR : b8 R) : ∀ m k, (∀ c ∈ seg R k m, c < 128) → ∀ j, j < m → (seg R k m)[j]? = some (R (k + j))
  | 0, k, _, j, hj => absurd hj (Nat.not_lt_zero j)
  | m + 1, k, h, j, hj => by
    rw [seg]
    cases j with
    | zero =>
      show some (R k &&& 255) = _
      rw [raw_ok (hR k) (h _ List.mem_cons_self)]; rfl
    | succ j =>
      show (seg R (k + 1) m)[j]? = _
      rw [seg_eq hR m (k + 1) (fun c hc => h c (List.mem_cons_of_mem _ hc)) j (by omega), show k + 1 + j = k + (j + 1) by omega]
theorem pk8_app : ∀ (l : List Int32) (c : Int32) (a : Int64), pk8 (l ++ [c]) a = (pk8 l a <<< ((8 : Int32).toInt64 &&& 63)) ||| c.toInt64
  | [], c, a => rfl
  | x :: l, c, a => pk8_app l c _
theorem m_kindOf_13 {R : Nat → Int32} {e p m : Nat} (h : mp R e σ) (hpm : p + m ≤ e) (l : List Int32) (hl : l.length = m) (hg : ∀ j, j < m → l[j]? = some (R (p + j))) : ∀ (n k : Nat) (d4 : sm_V), k + n = m → sm_go (sm_ZZ X) sm_PP true (sm_callM X true d) 195 13 [vP (23, 0), vI (Int32.ofNat p), vI (Int32.ofNat m), vL (pk8 (l.take k) 0), d4, vI (Int32.ofNat k)] [] σ = sm_go (sm_ZZ X) sm_PP true (sm_callM X true d) 195 44 [vP (23, 0), vI (Int32.ofNat p), vI (Int32.ofNat m), vL (pk8 l 0), vU, vI 0] [] σ
  | 0, k, d4, hk => by
    have he := h.2.2
    rw [q_X13_kindOf_13, if_neg (by rw [i_lt (by omega) (by omega)]; omega), List.take_of_length_le (by omega)]
  | n + 1, k, d4, hk => by
    have he := h.2.2
    have hkm : k < m := by omega
    rw [q_X13_kindOf_13, if_pos ((i_lt (by omega) (by omega)).mpr hkm), i_add, ix_nat (by omega) (by decide), h.1, i_s]
    have e1 : l.take (k + 1) = l.take k ++ [R (p + k)] := by
      rw [List.take_add_one, hg k hkm]; rfl
    have := m_kindOf_13 h hpm l hl hg n (k + 1) vU (by omega)
    rw [e1, pk8_app] at this
    exact this
theorem whr_m {l : List Int32} : ∀ (ws : List (List Int32)) (i : Int32), (if whr l ws i = 18 then (36 : Int32) else whr l ws i) = -1 ↔ whr l ws i = -1 := by
  intro ws i
  by_cases q : whr l ws i = 18
  · rw [if_pos q, q]; decide
  · rw [if_neg q]
theorem m_kindOf {R : Nat → Int32} {e p : Nat} (h : mp R e σ) (hR : b8 R) (hp : p ≤ e) : sm_callM X true (d + 6) 195 [vP (23, 0), vI (Int32.ofNat p), vI (Int32.ofNat (rl isCb R e (e - p) p))] σ = rI (if 8 < rl isCb R e (e - p) p then -1 else if whr (seg R p (rl isCb R e (e - p) p)) sm_kinds 0 = 18 then 36 else whr (seg R p (rl isCb R e (e - p) p)) sm_kinds 0) σ := by
  have he := h.2.2
  have hm := rl_le isCb R e (e - p) p hp
  rw [f_X13_kindOf, q_X13_kindOf_0]
  by_cases q : 8 < rl isCb R e (e - p) p
  · rw [if_pos q, if_pos (by rw [show (8 : Int32) = Int32.ofNat 8 from rfl, i_lt (by omega) (by omega)]; exact q)]
  · rw [if_neg q, if_neg (by rw [show (8 : Int32) = Int32.ofNat 8 from rfl, i_lt (by omega) (by omega)]; exact q)]
    have e1 := m_kindOf_13 (X := X) (d := d + 5) h hm (seg R p (rl isCb R e (e - p) p)) (seg_len _ _ _) (seg_eq hR _ _ (fun c hc => (isCb_ok (seg_all _ _ _ _ _ c hc)).2)) _ 0 vU (Nat.zero_add _)
    have e1 : sm_go (sm_ZZ X) sm_PP true (sm_callM X true (d + 5)) 195 13 [vP (23, 0), vI (Int32.ofNat p), vI (Int32.ofNat (rl isCb R e (e - p) p)), vL 0, vU, vI 0] [] σ = _ := e1
    rw [e1]
    have e2 := m_kindOf_44 (X := X) (d := d) (s := σ) (pk8 (seg R p (rl isCb R e (e - p) p)) 0) 18 0 (vP (23, 0)) (vI (Int32.ofNat p)) (vI (Int32.ofNat (rl isCb R e (e - p) p))) vU rfl
    have e2 : sm_go (sm_ZZ X) sm_PP true (sm_callM X true (d + 5)) 195 44 [vP (23, 0), vI (Int32.ofNat p), vI (Int32.ofNat (rl isCb R e (e - p) p)), vL (pk8 (seg R p (rl isCb R e (e - p) p)) 0), vU, vI 0] [] σ = rI (if lk (sm_kinds.map (fun w => pk8 w 0)) 0 (pk8 (seg R p (rl isCb R e (e - p) p)) 0) = 18 then 36 else lk (sm_kinds.map (fun w => pk8 w 0)) 0 (pk8 (seg R p (rl isCb R e (e - p) p)) 0)) σ := e2
    rw [e2, lk8 (nm_C q) _ _ ok_kinds]
theorem mN_k {i p : Nat} {v v' : Int64} {kd : Int32} : sI (sL (sL (sI σ 69 0 i (Int32.ofNat p)) 70 0 i v) 70 0 i v') 68 0 i kd = mN σ i p kd v' := by
  rw [sL_sL]; rfl
theorem neg1_64 {x : Int32} : lg_cmp x.toInt64 (-1) = 0 ↔ x = -1 := by
  rw [lgc, show (-1 : Int64) = (-1 : Int32).toInt64 from rfl]
  constructor
  · intro h
    have := congrArg Int64.toInt h
    rw [Int32.toInt_toInt64, Int32.toInt_toInt64] at this
    exact Int32.toInt_inj.mp this
  · intro h; rw [h]
theorem m_caps {R : Nat → Int32} {e p i : Nat} (h : mp R e σ) (hR : b8 R) (hp : p < e) (hc : isCb (R p &&& 255) = true) (hi : i < 803) : ∀ (f n : Nat) (d3 d5 : sm_V), 0 < n → p + n ≤ e → e ≤ p + n + f → n + rl isCb R e f (p + n) = rl isCb R e (e - p) p →
    ∃ v, sm_go (sm_ZZ X) sm_PP true (sm_callM X true (d + 6)) 197 52 [vP (23, 0), vI (Int32.ofNat i), vI (Int32.ofNat p), d3, vI (Int32.ofNat n), d5] [] (sL (sI σ 69 0 i (Int32.ofNat p)) 70 0 i 0) = rI (Int32.ofNat (rl isCb R e (e - p) p)) (mN σ i p (if (if 8 < rl isCb R e (e - p) p then -1 else whr (seg R p (rl isCb R e (e - p) p)) sm_kinds 0) = -1 then 6 else 2) v) ∧
      (¬ 8 < rl isCb R e (e - p) p → v = (if whr (seg R p (rl isCb R e (e - p) p)) sm_kinds 0 = 18 then (36 : Int32) else whr (seg R p (rl isCb R e (e - p) p)) sm_kinds 0).toInt64)
  | f, n, d3, d5, hn, hpn, hf, hr => by
    have he := h.2.2
    have hL := mp_L (i := i) (p := p) (v := 0) h
    rw [q_X13_token_52, i_add, m_sign hL (by omega), bI_r, m_isCapital, bI_r]
    by_cases q1 : isCb (if p + n < e then R (p + n) &&& 255 else -1) = true
    · have q1' := (sb_n (by decide)).mp q1
      obtain ⟨f, rfl⟩ : ∃ g, f = g + 1 := ⟨f - 1, by omega⟩
      rw [if_neg (by rw [q1]; decide), i_s]
      exact m_caps h hR hp hc hi f (n + 1) _ _ (by omega) (by omega) (by omega) (by
        rw [rl_1 q1'] at hr
        rw [show p + (n + 1) = p + n + 1 by omega]; omega)
    · have hz : rl isCb R e f (p + n) = 0 := rl_0 (fun z => q1 ((sb_n (by decide)).mpr z))
      rw [hz, Nat.add_zero] at hr
      subst hr
      rw [if_pos (bi_0.mpr (by simpa using q1)), m_kindOf hL hR (by omega), bI_r, ix_nat hi (by decide), ix_nat hi (by decide), ix_nat hi (by decide), ix_nat hi (by decide)]
      rw [show (sL (sL (sI σ 69 0 i (Int32.ofNat p)) 70 0 i 0) 70 0 i (if 8 < rl isCb R e (e - p) p then (-1 : Int32) else if whr (seg R p (rl isCb R e (e - p) p)) sm_kinds 0 = 18 then 36 else whr (seg R p (rl isCb R e (e - p) p)) sm_kinds 0).toInt64).2.1 70 0 i = (if 8 < rl isCb R e (e - p) p then (-1 : Int32) else if whr (seg R p (rl isCb R e (e - p) p)) sm_kinds 0 = 18 then 36 else whr (seg R p (rl isCb R e (e - p) p)) sm_kinds 0).toInt64 by rw [gL, if_pos ⟨rfl, rfl, rfl⟩], mN_k, mN_k]
      refine ⟨(if 8 < rl isCb R e (e - p) p then (-1 : Int32) else if whr (seg R p (rl isCb R e (e - p) p)) sm_kinds 0 = 18 then 36 else whr (seg R p (rl isCb R e (e - p) p)) sm_kinds 0).toInt64, ?_, fun q => by rw [if_neg q]⟩
      by_cases q : 8 < rl isCb R e (e - p) p
      · simp only [if_pos q]
        rw [if_pos (by decide), if_pos trivial]
      · simp only [if_neg q]
        by_cases q2 : whr (seg R p (rl isCb R e (e - p) p)) sm_kinds 0 = -1
        · rw [if_pos (neg1_64.mpr ((whr_m _ _).mpr q2)), if_pos q2]
        · rw [if_neg (fun z => q2 ((whr_m _ _).mp (neg1_64.mp z))), if_neg q2]
/-! digits -/
theorem dig_d : ∀ n, n < 10 → (Int32.ofNat (48 + n) - 48).toInt64 = (Int32.ofNat (48 + n)).toInt64 - 48 := by decide +kernel
theorem isDb_n {c : Int32} (h : isDb c = true) : ∃ n, n < 10 ∧ c = Int32.ofNat (48 + n) := by
  unfold isDb at h
  simp only [Bool.and_eq_true, Bool.not_eq_true', decide_eq_false_iff_not] at h
  simp only [Int32.lt_iff_toInt_lt] at h
  have e1 : (48 : Int32).toInt = 48 := rfl
  have e2 : (57 : Int32).toInt = 57 := rfl
  refine ⟨(c.toInt - 48).toNat, by omega, ?_⟩
  apply Int32.toInt_inj.mp
  rw [Int32.toInt_ofNat_of_lt (by omega)]
  omega
theorem dg_step {c : Int32} (h : isDb c = true) (a : Int64) : 10 * a + c.toInt64 - 48 = a * 10 + (c - 48).toInt64 := by
  obtain ⟨n, hn, rfl⟩ := isDb_n h
  rw [dig_d n hn, Int64.mul_comm, Int64.sub_eq_add_neg, Int64.sub_eq_add_neg, Int64.add_assoc]
theorem dg_app : ∀ (l : List Int32) (c : Int32) (a : Int64), dg (l ++ [c]) a = dg l a * 10 + (c - 48).toInt64
  | [], c, a => rfl
  | x :: l, c, a => dg_app l c _
theorem m_dig_144 {R : Nat → Int32} {e p i m : Nat} (h : mp R e σ) (hpm : p + m ≤ e) (hi : i < 803) (hm : m < 10) (hd : ∀ c ∈ seg R p m, isDb c = true) (hg : ∀ j, j < m → (seg R p m)[j]? = some (R (p + j) &&& 255)) : ∀ (n k : Nat) (d3 : sm_V), k + n = m → sm_go (sm_ZZ X) sm_PP true (sm_callM X true (d + 1)) 197 144 [vP (23, 0), vI (Int32.ofNat i), vI (Int32.ofNat p), d3, vI (Int32.ofNat m), vI (Int32.ofNat k)] [] (sL (sI σ 69 0 i (Int32.ofNat p)) 70 0 i (dg ((seg R p m).take k) 0)) = sm_go (sm_ZZ X) sm_PP true (sm_callM X true (d + 1)) 197 194 [vP (23, 0), vI (Int32.ofNat i), vI (Int32.ofNat p), vU, vI (Int32.ofNat m), vI (Int32.ofNat m)] [] (sL (sI σ 69 0 i (Int32.ofNat p)) 70 0 i (dg (seg R p m) 0))
  | 0, k, d3, hk => by
    have hkm : k = m := by omega
    subst hkm
    rw [q_X13_token_144, if_neg (by rw [i_lt (by omega) (by omega)]; omega), List.take_of_length_le (by rw [seg_len]; omega)]
  | n + 1, k, d3, hk => by
    have he := h.2.2
    have hkm : k < m := by omega
    rw [q_X13_token_144, if_pos ((i_lt (by omega) (by omega)).mpr hkm), if_pos (by rw [show (10 : Int32) = Int32.ofNat 10 from rfl, i_lt (by omega) (by omega)]; exact hm), ix_nat hi (by decide), i_add, m_sign (mp_L h) (by omega), bI_r, if_pos (by omega), ix_nat hi (by decide), sL_sL, i_s]
    have hc : isDb (R (p + k) &&& 255) = true := hd _ (List.mem_of_getElem? (hg k hkm))
    have e0 : (sL (sI σ 69 0 i (Int32.ofNat p)) 70 0 i (dg ((seg R p m).take k) 0)).2.1 70 0 i = dg ((seg R p m).take k) 0 := by rw [gL, if_pos ⟨rfl, rfl, rfl⟩]
    have e1 : (seg R p m).take (k + 1) = (seg R p m).take k ++ [R (p + k) &&& 255] := by
      rw [List.take_add_one, hg k hkm]; rfl
    rw [e0, dg_step hc, ← dg_app, ← e1]
    exact m_dig_144 h hpm hi hm hd hg n (k + 1) vU (by omega)
theorem seg_at (R : Nat → Int32) : ∀ m k j, j < m → (seg R k m)[j]? = some (R (k + j) &&& 255)
  | 0, k, j, hj => absurd hj (Nat.not_lt_zero j)
  | m + 1, k, j, hj => by
    rw [seg]
    cases j with
    | zero => rfl
    | succ j =>
      show (seg R (k + 1) m)[j]? = _
      rw [seg_at R m (k + 1) j (by omega), show k + 1 + j = k + (j + 1) by omega]
theorem m_dig_121 {R : Nat → Int32} {e p i : Nat} (h : mp R e σ) (hi : i < 803) : ∀ (f n : Nat) (d3 d5 : sm_V), p + n ≤ e → e ≤ p + n + f → n + rl isDb R e f (p + n) = rl isDb R e (e - p) p → sm_go (sm_ZZ X) sm_PP true (sm_callM X true (d + 1)) 197 121 [vP (23, 0), vI (Int32.ofNat i), vI (Int32.ofNat p), d3, vI (Int32.ofNat n), d5] [] (sL (sI σ 69 0 i (Int32.ofNat p)) 70 0 i 0) = sm_go (sm_ZZ X) sm_PP true (sm_callM X true (d + 1)) 197 144 [vP (23, 0), vI (Int32.ofNat i), vI (Int32.ofNat p), vU, vI (Int32.ofNat (rl isDb R e (e - p) p)), vI 0] [] (sL (sI σ 69 0 i (Int32.ofNat p)) 70 0 i 0)
  | f, n, d3, d5, hpn, hf, hr => by
    have he := h.2.2
    rw [q_X13_token_121, i_add, m_sign (mp_L h) (by omega), bI_r, m_isDigit, bI_r]
    by_cases q1 : isDb (if p + n < e then R (p + n) &&& 255 else -1) = true
    · have q1' := (sb_n (by decide)).mp q1
      obtain ⟨f, rfl⟩ : ∃ g, f = g + 1 := ⟨f - 1, by omega⟩
      rw [if_neg (by rw [q1]; decide), i_s]
      exact m_dig_121 h hi f (n + 1) _ _ (by omega) (by omega) (by
        rw [rl_1 q1'] at hr
        rw [show p + (n + 1) = p + n + 1 by omega]; omega)
    · have hz : rl isDb R e f (p + n) = 0 := rl_0 (fun z => q1 ((sb_n (by decide)).mpr z))
      rw [hz, Nat.add_zero] at hr
      subst hr
      rw [if_pos (bi_0.mpr (by simpa using q1))]
theorem m_digits {R : Nat → Int32} {e p i : Nat} (h : mp R e σ) (hp : p ≤ e) (hi : i < 803) : ∃ v, sm_go (sm_ZZ X) sm_PP true (sm_callM X true (d + 1)) 197 144 [vP (23, 0), vI (Int32.ofNat i), vI (Int32.ofNat p), vU, vI (Int32.ofNat (rl isDb R e (e - p) p)), vI 0] [] (sL (sI σ 69 0 i (Int32.ofNat p)) 70 0 i 0) =
      rI (Int32.ofNat (rl isDb R e (e - p) p)) (mN σ i p (if 9 < rl isDb R e (e - p) p ∨ (p + rl isDb R e (e - p) p < e ∧ (isSb (R (p + rl isDb R e (e - p) p) &&& 255) = true ∨ isCb (R (p + rl isDb R e (e - p) p) &&& 255) = true)) then 6 else 3) v) ∧ (¬ 9 < rl isDb R e (e - p) p → v = dg (seg R p (rl isDb R e (e - p) p)) 0) := by
  have he := h.2.2
  have hm := rl_le isDb R e (e - p) p hp
  have t194 : ∀ (v : Int64) (x : Int32), sm_go (sm_ZZ X) sm_PP true (sm_callM X true (d + 1)) 197 194 [vP (23, 0), vI (Int32.ofNat i), vI (Int32.ofNat p), vU, vI (Int32.ofNat (rl isDb R e (e - p) p)), vI x] [] (sL (sI σ 69 0 i (Int32.ofNat p)) 70 0 i v) = rI (Int32.ofNat (rl isDb R e (e - p) p)) (mN σ i p (if 9 < rl isDb R e (e - p) p ∨ (p + rl isDb R e (e - p) p < e ∧ (isSb (R (p + rl isDb R e (e - p) p) &&& 255) = true ∨ isCb (R (p + rl isDb R e (e - p) p) &&& 255) = true)) then 6 else 3) v) := fun v x => by
    rw [q_X13_token_194, ix_nat hi (by decide)]
    by_cases q : 9 < rl isDb R e (e - p) p
    · rw [if_pos (by rw [show (9 : Int32) = Int32.ofNat 9 from rfl, i_lt (by omega) (by omega)]; exact q), if_pos (Or.inl q)]; rfl
    · rw [if_neg (by rw [show (9 : Int32) = Int32.ofNat 9 from rfl, i_lt (by omega) (by omega)]; exact q), i_add, m_sign (mp_L h) (by omega), bI_r, m_isSmall, bI_r]
      by_cases a1 : isSb (if p + rl isDb R e (e - p) p < e then R (p + rl isDb R e (e - p) p) &&& 255 else -1) = true
      · have a1' := (sb_n (by decide)).mp a1
        rw [if_neg (by rw [a1]; decide), if_pos (Or.inr ⟨a1'.1, Or.inl a1'.2⟩), ix_nat hi (by decide)]; rfl
      · rw [if_pos (bi_0.mpr (by simpa using a1)), m_sign (mp_L h) (by omega), bI_r, m_isCapital, bI_r]
        by_cases a2 : isCb (if p + rl isDb R e (e - p) p < e then R (p + rl isDb R e (e - p) p) &&& 255 else -1) = true
        · have a2' := (sb_n (by decide)).mp a2
          rw [if_neg (by rw [a2]; decide), if_pos (Or.inr ⟨a2'.1, Or.inr a2'.2⟩), ix_nat hi (by decide)]; rfl
        · rw [if_pos (bi_0.mpr (by simpa using a2)), if_neg (fun z => z.elim q (fun z => z.2.elim (fun w => a1 ((sb_n (by decide)).mpr ⟨z.1, w⟩)) (fun w => a2 ((sb_n (by decide)).mpr ⟨z.1, w⟩)))), ix_nat hi (by decide)]; rfl
  by_cases q : 9 < rl isDb R e (e - p) p
  · refine ⟨0, ?_, fun z => absurd q z⟩
    rw [q_X13_token_144, if_pos (by rw [show (0 : Int32) = Int32.ofNat 0 from rfl, i_lt (by omega) (by omega)]; omega), if_neg (by rw [show (10 : Int32) = Int32.ofNat 10 from rfl, i_lt (by omega) (by omega)]; omega)]
    exact t194 0 0
  · refine ⟨dg (seg R p (rl isDb R e (e - p) p)) 0, ?_, fun _ => rfl⟩
    have e1 := m_dig_144 (X := X) (d := d) (i := i) h hm hi (by omega) (seg_all _ _ _ _ _) (fun j hj => seg_at R _ _ j hj) _ 0 vU (Nat.zero_add _)
    have e1 : sm_go (sm_ZZ X) sm_PP true (sm_callM X true (d + 1)) 197 144 [vP (23, 0), vI (Int32.ofNat i), vI (Int32.ofNat p), vU, vI (Int32.ofNat (rl isDb R e (e - p) p)), vI 0] [] (sL (sI σ 69 0 i (Int32.ofNat p)) 70 0 i 0) = _ := e1
    rw [e1]
    exact t194 _ _
end
