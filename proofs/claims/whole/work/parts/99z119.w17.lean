section
/-! THE TOKENS THAT BOTH SIDES CUT, AS THE READING TAKES THEM -/
variable {X : Nat × (Nat → Int32)} {d : Nat} {s σ : sm_S} {mi N : Nat} {O : Nat → Nat → Nat → Int32} {R : Nat → Int32} {e : Nat}
def zTk (R : Nat → Int32) (e : Nat) : zT := (fun i => (tki R e i).1, fun i => (tki R e i).2.1, fun i => (tki R e i).2.2.1, fun i => Int32.ofNat (tpl R e i))
/-- what is true of a token -/
def tkG (t : Int32 × List Int32 × Int64 × Nat) : Prop := (t.1 = 3 → nmOk t.2.1) ∧ (t.1 = 5 → (∃ k, k < 18 ∧ t.2.2.1 = (Int32.ofNat k).toInt64) ∨ t.2.2.1 = (36 : Int32).toInt64) ∧ t.1 ≠ 0
theorem tkG_7 {l : List Int32} {v : Int64} {n : Nat} : tkG (7, l, v, n) := ⟨fun z => absurd (show (7 : Int32) = 3 from z) (by decide), fun z => absurd (show (7 : Int32) = 5 from z) (by decide), show (7 : Int32) ≠ 0 by decide⟩
theorem tkG_sg : ∀ c ∈ sm_by 2, (c ≠ 3 ∧ c ≠ 5 ∧ c ≠ 0) := by decide +kernel
theorem word_d : ∀ j, j < 15 → (200 + Int32.ofNat j ≠ 3 ∧ 200 + Int32.ofNat j ≠ 5 ∧ 200 + Int32.ofNat j ≠ 0) := by decide
theorem tok_G (p : Nat) : tkG (tok R e p) := by
  unfold tok
  by_cases h1 : p < e
  · rw [if_pos h1]
    by_cases h2 : isSb (R p &&& 255) = true
    · rw [if_pos h2]
      by_cases h3 : 8 < rl isSD R e (e - p) p
      · rw [if_pos h3]; exact tkG_7
      · rw [if_neg h3]
        by_cases h4 : whr (seg R p (rl isSD R e (e - p) p)) sm_words 0 = -1
        · rw [if_pos h4]
          exact ⟨fun _ => nm_SD h3, fun z => absurd (show (3 : Int32) = 5 from z) (by decide), show (3 : Int32) ≠ 0 by decide⟩
        · rw [if_neg h4]
          rcases whr_ge (seg R p (rl isSD R e (e - p) p)) sm_words 0 (by decide) with w | ⟨j, -, hj, w⟩
          · exact absurd w h4
          · have w : whr (seg R p (rl isSD R e (e - p) p)) sm_words 0 = Int32.ofNat j := w
            rw [w]
            obtain ⟨a1, a2, a3⟩ := word_d j (by have : 0 + sm_words.length = 15 := by decide
                                                omega)
            exact ⟨fun z => absurd z a1, fun z => absurd z a2, a3⟩
    · rw [if_neg h2]
      by_cases h3 : isCb (R p &&& 255) = true
      · rw [if_pos h3]
        by_cases h4 : 8 < rl isCb R e (e - p) p
        · rw [if_pos h4]; exact tkG_7
        · rw [if_neg h4]
          by_cases h5 : whr (seg R p (rl isCb R e (e - p) p)) sm_kinds 0 = -1
          · rw [if_pos h5]; exact tkG_7
          · rw [if_neg h5]
            refine ⟨fun z => absurd (show (5 : Int32) = 3 from z) (by decide), fun _ => ?_, show (5 : Int32) ≠ 0 by decide⟩
            rcases whr_ge (seg R p (rl isCb R e (e - p) p)) sm_kinds 0 (by decide) with w | ⟨j, -, hj, w⟩
            · exact absurd w h5
            · have w : whr (seg R p (rl isCb R e (e - p) p)) sm_kinds 0 = Int32.ofNat j := w
              have hj : j < 19 := by have : 0 + sm_kinds.length = 19 := by decide
                                     omega
              show (∃ k, k < 18 ∧ (if whr (seg R p (rl isCb R e (e - p) p)) sm_kinds 0 = 18 then (36 : Int32) else whr (seg R p (rl isCb R e (e - p) p)) sm_kinds 0).toInt64 = _) ∨ (if whr (seg R p (rl isCb R e (e - p) p)) sm_kinds 0 = 18 then (36 : Int32) else whr (seg R p (rl isCb R e (e - p) p)) sm_kinds 0).toInt64 = _
              rw [w]
              by_cases q : Int32.ofNat j = 18
              · rw [if_pos q]; exact Or.inr rfl
              · rw [if_neg q]
                refine Or.inl ⟨j, ?_, rfl⟩
                rcases Nat.lt_or_ge j 18 with z | z
                · exact z
                · exfalso
                  exact q (by rw [show j = 18 by omega]; rfl)
      · rw [if_neg h3]
        by_cases h4 : isDb (R p &&& 255) = true
        · rw [if_pos h4]
          split
          · exact tkG_7
          · exact ⟨fun z => absurd (show (4 : Int32) = 3 from z) (by decide), fun z => absurd (show (4 : Int32) = 5 from z) (by decide), show (4 : Int32) ≠ 0 by decide⟩
        · rw [if_neg h4]
          split
          · by_cases q : R p &&& 255 = 61
            · rw [if_pos q]; exact ⟨fun z => absurd (show (1 : Int32) = 3 from z) (by decide), fun z => absurd (show (1 : Int32) = 5 from z) (by decide), show (1 : Int32) ≠ 0 by decide⟩
            · rw [if_neg q]; exact ⟨fun z => absurd (show (2 : Int32) = 3 from z) (by decide), fun z => absurd (show (2 : Int32) = 5 from z) (by decide), show (2 : Int32) ≠ 0 by decide⟩
          · by_cases q : (sm_by 2).contains (R p &&& 255) = true
            · rw [if_pos q]
              obtain ⟨a1, a2, a3⟩ := tkG_sg _ (List.contains_iff_mem.mp q)
              exact ⟨fun z => absurd z a1, fun z => absurd z a2, a3⟩
            · rw [if_neg q]; exact tkG_7
  · rw [if_neg h1]
    exact ⟨fun z => absurd (show (6 : Int32) = 3 from z) (by decide), fun z => absurd (show (6 : Int32) = 5 from z) (by decide), show (6 : Int32) ≠ 0 by decide⟩
theorem TK_of (h : tLast R e N) : TK (zTk R e) N :=
  ⟨h.1, h.2.1, h.2.2, fun i => (tok_G (tpl R e i)).1, fun i => (tok_G (tpl R e i)).2.1, fun i => (tok_G (tpl R e i)).2.2⟩
/-- the start of the reading; what isn't known there is out of reach -/
def zA0 : zA := (0, [], (99, 0, 0, 0), 5, [], 0, none, [], 0, [], [], 11, 9, [])
theorem TI_0 : TI zA0 := by
  refine ⟨⟨rfl, rfl, Nat.le_refl _, by decide, fun e he => (by cases he), fun e he => (by cases he)⟩, Nat.le_refl _, by decide, fun q hq => (by cases hq), rfl, Nat.le_refl _⟩
/-- the reference behind its scan stands at the start, book mi cleared -/
theorem PM_0 {O : Nat → Nat → Nat → Int32} (ht : tmI R e (N + 1) σ) (hc : σ.2.2.1 23 0 7 = (22, mi)) (h1 : σ.1 22 mi 0 = 0) (h2 : σ.1 22 mi 6 = 0) (h3 : σ.1 23 0 11 = 0 ∧ σ.1 23 0 9 = 0 ∧ σ.1 23 0 10 = -1) (hk : MN [] 0 σ) (ho : OM mi O σ) : PM mi O (zTk R e) N zA0 σ := by
  refine ⟨⟨Nat.zero_le _, Nat.zero_le _, fun j hj => ?_, h3⟩, ⟨h2, fun k e hk _ => (by cases hk), fun e he => (by cases he)⟩, ⟨h1, by decide, fun z => absurd rfl z, fun i q hi => (by cases hi)⟩, hk, ⟨fun z => absurd (show (11 : Nat) ≤ 10 from z) (by decide), fun z => absurd (show (9 : Nat) ≤ 8 from z) (by decide), fun z => absurd (show (5 : Nat) ≤ 4 from z) (by decide), fun z => absurd (show (99 : Nat) = 0 from z) (by decide), fun z => ?_⟩, hc, ho⟩
  · exact ht.1 j (by omega)
  · exfalso
    have z : (99 : Nat) = 5 ∨ (99 : Nat) = 15 ∨ (99 : Nat) = 17 := z
    omega
end
