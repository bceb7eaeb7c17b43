section
variable {X : Nat × (Nat → Int32)} {d : Nat} {s σ : sm_S}
theorem m_isSign (x : Int32) : sm_callM X true (d + 1) 198 [vI x] s = rI (bi ((sm_by 2).contains x)) s := by
  rw [f_X13_isSign, q_X13_isSign_0]
  by_cases hc : (sm_by 2).contains x = true
  · have key : ∀ c ∈ sm_by 2, ∀ s : sm_S, (if c = 40 then rI 1 s else if c = 41 then rI 1 s else if c = 42 then rI 1 s else if c = 43 then rI 1 s else if c = 44 then rI 1 s else if c = 45 then rI 1 s else if c = 46 then rI 1 s else if c = 58 then rI 1 s else if c = 59 then rI 1 s else if c = 60 then rI 1 s else if c = 61 then rI 1 s else if c = 91 then rI 1 s else if c = 93 then rI 1 s else if c = 123 then rI 1 s else if c = 125 then rI 1 s else rI 0 s) = rI 1 s := by
      intro c h s
      have h : c ∈ [40, 41, 123, 125, 91, 93, 44, 59, 46, 58, 61, 60, 43, 45, (42 : Int32)] := h
      simp only [List.mem_cons, List.not_mem_nil, or_false] at h
      rcases h with rfl | rfl | rfl | rfl | rfl | rfl | rfl | rfl | rfl | rfl | rfl | rfl | rfl | rfl | rfl <;> rfl
    rw [hc]
    exact key x (List.contains_iff_mem.mp hc) s
  · have hc : (sm_by 2).contains x = false := by simpa using hc
    rw [hc]
    have ne : ∀ c ∈ sm_by 2, ¬ x = c := fun c h e => by
      rw [e, List.contains_iff_mem.mpr h] at hc; cases hc
    rw [if_neg (ne 40 (by decide)), if_neg (ne 41 (by decide)), if_neg (ne 42 (by decide)), if_neg (ne 43 (by decide)), if_neg (ne 44 (by decide)), if_neg (ne 45 (by decide)), if_neg (ne 46 (by decide)), if_neg (ne 58 (by decide)), if_neg (ne 59 (by decide)), if_neg (ne 60 (by decide)), if_neg (ne 61 (by decide)), if_neg (ne 91 (by decide)), if_neg (ne 93 (by decide)), if_neg (ne 123 (by decide)), if_neg (ne 125 (by decide))]
    rfl
/-- a token's kind and value in the reference -/
def mkd (k : Int32) : Int32 := if k = 6 then 7 else if k = 7 then 6 else if k = 3 then 1 else if 200 ≤ k then 5 else if k = 5 then 2 else if k = 4 then 3 else 4
def tvm (t : Int32 × List Int32 × Int64 × Nat) : Int64 := if t.1 = 3 then pk8 t.2.1 0 else if 200 ≤ t.1 then (t.1 - 200).toInt64 else if t.1 = 4 ∨ t.1 = 5 ∨ t.1 = 6 then t.2.2.1 else if t.1 = 1 then 300 else if t.1 = 2 then 301 else t.1.toInt64
theorem mkd_w : ∀ j, j < 15 → (mkd (200 + Int32.ofNat j) = 5 ∧ ¬ (200 + Int32.ofNat j = 3) ∧ 200 ≤ 200 + Int32.ofNat j ∧ 200 + Int32.ofNat j - 200 = Int32.ofNat j ∧ ¬ Int32.ofNat j = -1) := by decide +kernel
theorem mkd_s : ∀ c ∈ sm_by 2, (mkd c = 4 ∧ ¬ c = 3 ∧ ¬ 200 ≤ c ∧ ¬ (c = 4 ∨ c = 5 ∨ c = 6) ∧ ¬ c = 1 ∧ ¬ c = 2) := by decide +kernel
theorem mp_I {R : Nat → Int32} {e i p : Nat} (h : mp R e σ) : mp R e (sI σ 69 0 i (Int32.ofNat p)) := by
  obtain ⟨h1, h2, h3⟩ := h
  refine ⟨fun j => ?_, ?_, h3⟩
  · rw [gI, if_neg (by omega)]; exact h1 j
  · rw [gI, if_neg (by omega)]; exact h2
theorem mp_N {R : Nat → Int32} {e i p : Nat} {kd : Int32} {v : Int64} (h : mp R e σ) : mp R e (mN σ i p kd v) := by
  obtain ⟨h1, h2, h3⟩ := mp_L (i := i) (p := p) (v := v) h
  refine ⟨fun j => ?_, ?_, h3⟩
  · rw [mN, gI, if_neg (by omega)]; exact h1 j
  · rw [mN, gI, if_neg (by omega)]; exact h2
theorem b255_ne (x : Int32) : ¬ x &&& 255 = -1 := by
  obtain ⟨n, hn, e⟩ := b255 x
  rw [e]
  intro q
  have := i_nn (a := n) (by omega)
  rw [q] at this
  exact this (by decide)
set_option maxHeartbeats 1000000 in
theorem m_token {R : Nat → Int32} {e p i : Nat} (h : mp R e σ) (hR : b8 R) (hp : p ≤ e) (hi : i < 803) :
    ∃ v, sm_callM X true (d + 8) 197 [vP (23, 0), vI (Int32.ofNat i), vI (Int32.ofNat p)] (sI σ 69 0 i (Int32.ofNat p)) = rI (Int32.ofNat (tok R e p).2.2.2) (mN σ i p (mkd (tok R e p).1) v) ∧ ((tok R e p).1 ≠ 7 → v = tvm (tok R e p)) := by
  have he := h.2.2
  rw [f_X13_token, q_X13_token_0, m_sign (mp_I h) (by omega), bI_r, ix_nat hi (by decide), ix_nat hi (by decide)]
  unfold tok
  by_cases q : p < e
  · rw [if_pos q, if_pos q, if_neg (b255_ne _), m_isSmall, bI_r]
    by_cases q1 : isSb (R p &&& 255) = true
    · rw [if_neg (by rw [q1]; decide), if_pos q1]
      obtain ⟨v, e1, e2⟩ := m_name (X := X) (d := d) (i := i) h hp hi
      rw [e1, bI_r]
      by_cases q2 : 8 < rl isSD R e (e - p) p
      · rw [if_pos q2, if_pos q2]
        exact ⟨v, rfl, fun z => absurd rfl z⟩
      · rw [if_neg q2, if_neg q2]
        refine ⟨v, ?_, fun _ => ?_⟩
        · by_cases q3 : whr (seg R p (rl isSD R e (e - p) p)) sm_words 0 = -1
          · rw [if_pos q3, if_pos q3]; rfl
          · rw [if_neg q3, if_neg q3]
            rcases whr_ge (seg R p (rl isSD R e (e - p) p)) sm_words 0 (by decide) with z | ⟨j, z1, z2, z3⟩
            · exact absurd z q3
            · have z3 : whr (seg R p (rl isSD R e (e - p) p)) sm_words 0 = Int32.ofNat j := z3
              have z2 : j < 0 + 15 := z2
              rw [z3, (mkd_w j (by omega)).1]
        · rw [e2 q2]
          by_cases q3 : whr (seg R p (rl isSD R e (e - p) p)) sm_words 0 = -1
          · rw [if_pos q3, if_pos q3]; rfl
          · rw [if_neg q3, if_neg q3]
            rcases whr_ge (seg R p (rl isSD R e (e - p) p)) sm_words 0 (by decide) with z | ⟨j, z1, z2, z3⟩
            · exact absurd z q3
            · have z3 : whr (seg R p (rl isSD R e (e - p) p)) sm_words 0 = Int32.ofNat j := z3
              have z2 : j < 0 + 15 := z2
              obtain ⟨w1, w2, w3, w4, -⟩ := mkd_w j (by omega)
              unfold tvm
              rw [z3, if_neg w2, if_pos w3, w4]
    · rw [if_pos (bi_0.mpr (by simpa using q1)), if_neg q1, m_isCapital, bI_r]
      by_cases q2 : isCb (R p &&& 255) = true
      · rw [if_neg (by rw [q2]; decide), if_pos q2]
        have hr : 1 + rl isCb R e (e - p - 1) (p + 1) = rl isCb R e (e - p) p := by
          rw [show e - p = e - p - 1 + 1 by omega, rl_1 ⟨q, q2⟩]; rw [show e - p - 1 + 1 - 1 = e - p - 1 by omega]; omega
        obtain ⟨v, e1, e2⟩ := m_caps (X := X) (d := d + 1) h hR q q2 hi (e - p - 1) 1 (vI (R p &&& 255)) vU (by omega) (by omega) (by omega) hr
        have e1 : sm_go (sm_ZZ X) sm_PP true (sm_callM X true (d + 7)) 197 52 [vP (23, 0), vI (Int32.ofNat i), vI (Int32.ofNat p), vI (R p &&& 255), vI 1, vU] [] (sL (sI σ 69 0 i (Int32.ofNat p)) 70 0 i 0) = _ := e1
        rw [e1]
        by_cases q3 : 8 < rl isCb R e (e - p) p
        · rw [if_pos q3, if_pos q3, if_pos rfl]
          exact ⟨v, rfl, fun z => absurd rfl z⟩
        · rw [if_neg q3, if_neg q3]
          by_cases q4 : whr (seg R p (rl isCb R e (e - p) p)) sm_kinds 0 = -1
          · rw [if_pos q4, if_pos q4]
            exact ⟨v, rfl, fun z => absurd rfl z⟩
          · rw [if_neg q4, if_neg q4]
            exact ⟨v, rfl, fun _ => e2 q3⟩
      · rw [if_pos (bi_0.mpr (by simpa using q2)), if_neg q2, m_isDigit, bI_r]
        by_cases q3 : isDb (R p &&& 255) = true
        · rw [if_neg (by rw [q3]; decide), if_pos q3]
          have hr : 1 + rl isDb R e (e - p - 1) (p + 1) = rl isDb R e (e - p) p := by
            rw [show e - p = e - p - 1 + 1 by omega, rl_1 ⟨q, q3⟩]; rw [show e - p - 1 + 1 - 1 = e - p - 1 by omega]; omega
          have e0 := m_dig_121 (X := X) (d := d + 6) (i := i) h hi (e - p - 1) 1 (vI (R p &&& 255)) vU (by omega) (by omega) hr
          have e0 : sm_go (sm_ZZ X) sm_PP true (sm_callM X true (d + 7)) 197 121 [vP (23, 0), vI (Int32.ofNat i), vI (Int32.ofNat p), vI (R p &&& 255), vI 1, vU] [] (sL (sI σ 69 0 i (Int32.ofNat p)) 70 0 i 0) = _ := e0
          obtain ⟨v, e1, e2⟩ := m_digits (X := X) (d := d + 6) (i := i) h hp hi
          rw [e0, e1]
          by_cases w : 9 < rl isDb R e (e - p) p ∨ (p + rl isDb R e (e - p) p < e ∧ (isSb (R (p + rl isDb R e (e - p) p) &&& 255) = true ∨ isCb (R (p + rl isDb R e (e - p) p) &&& 255) = true))
          · rw [if_pos w, if_pos w]
            exact ⟨v, rfl, fun z => absurd rfl z⟩
          · rw [if_neg w, if_neg w]
            exact ⟨v, rfl, fun _ => e2 (fun z => w (Or.inl z))⟩
        · rw [if_pos (bi_0.mpr (by simpa using q3)), if_neg q3, ix_nat hi (by decide), ix_nat hi (by decide), mN_a, i_s, m_sign (mp_N h) (by omega), bI_r]
          have s1 : ∀ (d2 d4 d5 : sm_V), sm_go (sm_ZZ X) sm_PP true (sm_callM X true (d + 7)) 197 288 [vP (23, 0), vI (Int32.ofNat i), d2, vI (R p &&& 255), d4, d5] [vI 1] (mN σ i p 4 (R p &&& 255).toInt64) = rI 2 (mN σ i p 4 (if R p &&& 255 = 61 then 300 else 301)) := fun d2 d4 d5 => by
            rw [q_X13_token_288, if_neg (by decide), ix_nat hi (by decide), ix_nat hi (by decide)]
            by_cases z : R p &&& 255 = 61
            · rw [if_pos z, if_pos z, if_neg (by decide)]
              show rI 2 (sL (sI (sL (sI σ 69 0 i (Int32.ofNat p)) 70 0 i _) 68 0 i 4) 70 0 i 300) = _
              rw [mN_a]
            · rw [if_neg z, if_neg z, if_neg (by decide)]
              show rI 2 (sL (sI (sL (sI σ 69 0 i (Int32.ofNat p)) 70 0 i _) 68 0 i 4) 70 0 i 301) = _
              rw [mN_a]
          have s0 : ∀ (d2 d4 d5 : sm_V), sm_go (sm_ZZ X) sm_PP true (sm_callM X true (d + 7)) 197 288 [vP (23, 0), vI (Int32.ofNat i), d2, vI (R p &&& 255), d4, d5] [vI 0] (mN σ i p 4 (R p &&& 255).toInt64) = rI 1 (mN σ i p (if (sm_by 2).contains (R p &&& 255) = true then 4 else 6) (R p &&& 255).toInt64) := fun d2 d4 d5 => by
            rw [q_X13_token_288, if_pos rfl, m_isSign, bI_r, ix_nat hi (by decide), if_pos rfl, if_pos rfl]
            cases z : (sm_by 2).contains (R p &&& 255) with
            | true => rw [if_neg (by decide), if_pos rfl]
            | false =>
              rw [if_pos (by decide), if_neg (by decide)]
              show rI 1 (sI (sI _ 68 0 i 4) 68 0 i 6) = _
              rw [sI_sI]; rfl
          have key : ((if p + 1 < e then R (p + 1) &&& 255 else -1) = 61) ↔ (p + 1 < e ∧ R (p + 1) &&& 255 = 61) := by
            by_cases z : p + 1 < e
            · rw [if_pos z]; simp [z]
            · rw [if_neg z]
              constructor
              · intro w; exact absurd w (by decide)
              · intro w; exact absurd w.1 z
          have two : ((p + 1 < e ∧ R (p + 1) &&& 255 = 61) ∧ (R p &&& 255 = 61 ∨ R p &&& 255 = 33)) → ∀ (d2 d4 d5 : sm_V), ∃ v, sm_go (sm_ZZ X) sm_PP true (sm_callM X true (d + 7)) 197 288 [vP (23, 0), vI (Int32.ofNat i), d2, vI (R p &&& 255), d4, d5] [vI 1] (mN σ i p 4 (R p &&& 255).toInt64) = rI (Int32.ofNat (if (p + 1 < e ∧ R (p + 1) &&& 255 = 61) ∧ (R p &&& 255 = 61 ∨ R p &&& 255 = 33) then (if R p &&& 255 = 61 then (1 : Int32) else 2, ([] : List Int32), (0 : Int64), 2) else if (sm_by 2).contains (R p &&& 255) = true then (R p &&& 255, [], 0, 1) else (7, [], 0, 1)).2.2.2) (mN σ i p (mkd (if (p + 1 < e ∧ R (p + 1) &&& 255 = 61) ∧ (R p &&& 255 = 61 ∨ R p &&& 255 = 33) then (if R p &&& 255 = 61 then (1 : Int32) else 2, ([] : List Int32), (0 : Int64), 2) else if (sm_by 2).contains (R p &&& 255) = true then (R p &&& 255, [], 0, 1) else (7, [], 0, 1)).1) v) ∧ ((if (p + 1 < e ∧ R (p + 1) &&& 255 = 61) ∧ (R p &&& 255 = 61 ∨ R p &&& 255 = 33) then (if R p &&& 255 = 61 then (1 : Int32) else 2, ([] : List Int32), (0 : Int64), 2) else if (sm_by 2).contains (R p &&& 255) = true then (R p &&& 255, [], 0, 1) else (7, [], 0, 1)).1 ≠ 7 → v = tvm (if (p + 1 < e ∧ R (p + 1) &&& 255 = 61) ∧ (R p &&& 255 = 61 ∨ R p &&& 255 = 33) then (if R p &&& 255 = 61 then (1 : Int32) else 2, ([] : List Int32), (0 : Int64), 2) else if (sm_by 2).contains (R p &&& 255) = true then (R p &&& 255, [], 0, 1) else (7, [], 0, 1))) := fun z d2 d4 d5 => by
            rw [s1, if_pos z]
            by_cases w : R p &&& 255 = 61
            · rw [if_pos w, if_pos w]; exact ⟨_, rfl, fun _ => rfl⟩
            · rw [if_neg w, if_neg w]; exact ⟨_, rfl, fun _ => rfl⟩
          have one : ¬ ((p + 1 < e ∧ R (p + 1) &&& 255 = 61) ∧ (R p &&& 255 = 61 ∨ R p &&& 255 = 33)) → ∀ (d2 d4 d5 : sm_V), ∃ v, sm_go (sm_ZZ X) sm_PP true (sm_callM X true (d + 7)) 197 288 [vP (23, 0), vI (Int32.ofNat i), d2, vI (R p &&& 255), d4, d5] [vI 0] (mN σ i p 4 (R p &&& 255).toInt64) = rI (Int32.ofNat (if (p + 1 < e ∧ R (p + 1) &&& 255 = 61) ∧ (R p &&& 255 = 61 ∨ R p &&& 255 = 33) then (if R p &&& 255 = 61 then (1 : Int32) else 2, ([] : List Int32), (0 : Int64), 2) else if (sm_by 2).contains (R p &&& 255) = true then (R p &&& 255, [], 0, 1) else (7, [], 0, 1)).2.2.2) (mN σ i p (mkd (if (p + 1 < e ∧ R (p + 1) &&& 255 = 61) ∧ (R p &&& 255 = 61 ∨ R p &&& 255 = 33) then (if R p &&& 255 = 61 then (1 : Int32) else 2, ([] : List Int32), (0 : Int64), 2) else if (sm_by 2).contains (R p &&& 255) = true then (R p &&& 255, [], 0, 1) else (7, [], 0, 1)).1) v) ∧ ((if (p + 1 < e ∧ R (p + 1) &&& 255 = 61) ∧ (R p &&& 255 = 61 ∨ R p &&& 255 = 33) then (if R p &&& 255 = 61 then (1 : Int32) else 2, ([] : List Int32), (0 : Int64), 2) else if (sm_by 2).contains (R p &&& 255) = true then (R p &&& 255, [], 0, 1) else (7, [], 0, 1)).1 ≠ 7 → v = tvm (if (p + 1 < e ∧ R (p + 1) &&& 255 = 61) ∧ (R p &&& 255 = 61 ∨ R p &&& 255 = 33) then (if R p &&& 255 = 61 then (1 : Int32) else 2, ([] : List Int32), (0 : Int64), 2) else if (sm_by 2).contains (R p &&& 255) = true then (R p &&& 255, [], 0, 1) else (7, [], 0, 1))) := fun z d2 d4 d5 => by
            rw [s0, if_neg z]
            by_cases w : (sm_by 2).contains (R p &&& 255) = true
            · obtain ⟨w1, w2, w3, w4, w5, w6⟩ := mkd_s _ (List.contains_iff_mem.mp w)
              rw [if_pos w, if_pos w]
              refine ⟨_, by rw [w1]; rfl, fun _ => ?_⟩
              unfold tvm
              rw [if_neg w2, if_neg w3, if_neg w4, if_neg w5, if_neg w6]
            · rw [if_neg w, if_neg w]
              exact ⟨_, rfl, fun z => absurd rfl z⟩
          by_cases a1 : (if p + 1 < e then R (p + 1) &&& 255 else -1) = 61
          · rw [if_pos a1]
            by_cases a2 : R p &&& 255 = 61
            · have := two ⟨key.mp a1, Or.inl a2⟩ (vI (Int32.ofNat p)) (vI 1) vU
              rw [if_pos a2]; exact this
            · by_cases a3 : R p &&& 255 = 33
              · have := two ⟨key.mp a1, Or.inr a3⟩ (vI (Int32.ofNat p)) (vI 1) vU
                rw [if_neg a2, if_pos a3]; exact this
              · have := one (fun w => w.2.elim a2 a3) (vI (Int32.ofNat p)) (vI 1) vU
                rw [if_neg a2, if_neg a3]; exact this
          · have := one (fun w => a1 (key.mpr w.1)) (vI (Int32.ofNat p)) (vI 1) vU
            rw [if_neg a1]; exact this
  · rw [if_neg q, if_neg q, if_pos rfl]
    exact ⟨0, rfl, fun _ => rfl⟩
end
