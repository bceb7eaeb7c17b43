section
variable {E : sm_G} {σ : sm_S}
/-- the locals as a list of those that hold something -/
def sm_pl (E : sm_G) (ad : Nat → Nat → Nat) : Nat → List sm_V → List (Nat × Value)
  | _, [] => []
  | k, v :: r => match v with
    | .inr (.inr (.inr _)) => sm_pl E ad (k + 1) r
    | u => (k, sm_rv E ad u) :: sm_pl E ad (k + 1) r
theorem sm_pl_mem (ad : Nat → Nat → Nat) : ∀ (L : List sm_V) (k i : Nat), sm_nth L i ≠ vU → (k + i, sm_rv E ad (sm_nth L i)) ∈ sm_pl E ad k L
  | [], k, i, h => absurd rfl h
  | v :: r, k, 0, h => by
    have h : v ≠ vU := h
    rcases v with x | x | x | x
    · exact List.mem_cons_self
    · exact List.mem_cons_self
    · exact List.mem_cons_self
    · exact absurd rfl h
  | v :: r, k, i + 1, h => by
    have q := sm_pl_mem ad r (k + 1) i h
    rw [show k + 1 + i = k + (i + 1) by omega] at q
    rcases v with x | x | x | x
    · exact List.mem_cons_of_mem _ q
    · exact List.mem_cons_of_mem _ q
    · exact List.mem_cons_of_mem _ q
    · exact q
theorem sm_pl_of (ad : Nat → Nat → Nat) : ∀ (L : List sm_V) (k : Nat) (q : Nat × Value), q ∈ sm_pl E ad k L → ∃ i, q = (k + i, sm_rv E ad (sm_nth L i)) ∧ sm_nth L i ≠ vU
  | [], k, q, h => by cases h
  | v :: r, k, q, h => by
    have tl : q ∈ sm_pl E ad (k + 1) r → ∃ i, q = (k + i, sm_rv E ad (sm_nth (v :: r) i)) ∧ sm_nth (v :: r) i ≠ vU := by
      intro h
      obtain ⟨i, h1, h2⟩ := sm_pl_of ad r (k + 1) q h
      exact ⟨i + 1, by rw [h1, show k + 1 + i = k + (i + 1) by omega]; rfl, h2⟩
    rcases v with x | x | x | x
    · rcases List.mem_cons.mp h with h | h
      · exact ⟨0, h, fun z => by cases z⟩
      · exact tl h
    · rcases List.mem_cons.mp h with h | h
      · exact ⟨0, h, fun z => by cases z⟩
      · exact tl h
    · rcases List.mem_cons.mp h with h | h
      · exact ⟨0, h, fun z => by cases z⟩
      · exact tl h
    · exact tl h
theorem sm_LR.has {nL : Nat} {L : List sm_V} {ls : Array Slot} (h : sm_LR E σ nL L ls) : lv_has ls nL (sm_pl E (sm_ad σ) 0 L) := by
  refine ⟨h.1, h.2.1, fun q hq => ?_⟩
  obtain ⟨i, h1, h2⟩ := sm_pl_of (sm_ad σ) L 0 q hq
  rw [h1, Nat.zero_add]
  exact (h.2.2 i h2).1
theorem sm_nth_set : ∀ (L : List sm_V) (i : Nat) (v : sm_V) (j : Nat), sm_nth (sm_set L i v) j = v ∧ j = i ∨ sm_nth (sm_set L i v) j = sm_nth L j ∧ (j ≠ i ∨ sm_nth L j = vU)
  | [], i, v, j => Or.inr ⟨rfl, Or.inr rfl⟩
  | x :: r, 0, v, 0 => Or.inl ⟨rfl, rfl⟩
  | x :: r, 0, v, j + 1 => Or.inr ⟨rfl, Or.inl (by omega)⟩
  | x :: r, i + 1, v, 0 => Or.inr ⟨rfl, Or.inl (by omega)⟩
  | x :: r, i + 1, v, j + 1 => by
    rcases sm_nth_set r i v j with h | h
    · exact Or.inl ⟨h.1, by omega⟩
    · exact Or.inr ⟨h.1, h.2.imp (by omega) id⟩
theorem sm_cat_rv {v : sm_V} (h : sm_isL v = false) (ho : E.2.2.2.2.2.1 = .null ∨ ∃ a, E.2.2.2.2.2.1 = .ref a) (ad : Nat → Nat → Nat) : (sm_rv E ad v).category = 1 := by
  rcases v with x | x | x | x
  · rfl
  · cases h
  · show (va_rf (sm_rp E ad x)).category = 1
    cases sm_rp E ad x <;> rfl
  · show (E.2.2.2.2.2.1).category = 1
    rcases ho with h | ⟨a, h⟩ <;> rw [h] <;> rfl
theorem sm_LR.st1 (ho : E.2.2.2.2.2.1 = .null ∨ ∃ a, E.2.2.2.2.2.1 = .ref a) {nL i : Nat} {L : List sm_V} {ls ls' : Array Slot} {v : sm_V} (h : sm_LR E σ nL L ls) (hv : sm_okv (sm_cnt σ) v)
    (h' : lv_has ls' nL ((i, sm_rv E (sm_ad σ) v) :: (sm_pl E (sm_ad σ) 0 L).filter (fun q => !(q.1 == i) && !(q.1 + 1 == i && q.2.category == 2)))) : sm_LR E σ nL (sm_st1 L i v) ls' := by
  refine ⟨h'.1, h'.2.1, fun j hj => ?_⟩
  have key : ∀ j, j ≠ i → sm_nth L j ≠ vU → (j + 1 = i → sm_isL (sm_nth L j) = false) → ls'[j]? = some (.val (sm_rv E (sm_ad σ) (sm_nth L j))) ∧ sm_okv (sm_cnt σ) (sm_nth L j) := by
    intro j h1 h2 h3
    refine ⟨h'.2.2 (j, sm_rv E (sm_ad σ) (sm_nth L j)) (List.mem_cons_of_mem _ (List.mem_filter.mpr ⟨?_, ?_⟩)), (h.2.2 j h2).2⟩
    · have := sm_pl_mem (E := E) (sm_ad σ) L 0 j h2
      rw [Nat.zero_add] at this
      exact this
    · simp only [Bool.and_eq_true, Bool.not_eq_true', beq_eq_false_iff_ne, Bool.and_eq_false_iff]
      refine ⟨h1, ?_⟩
      by_cases hz : j + 1 = i
      · exact Or.inr (by rw [sm_cat_rv (h3 hz) ho]; decide)
      · exact Or.inl hz
  have self : ls'[i]? = some (.val (sm_rv E (sm_ad σ) v)) ∧ sm_okv (sm_cnt σ) v := ⟨h'.2.2 (i, sm_rv E (sm_ad σ) v) List.mem_cons_self, hv⟩
  cases i with
  | zero =>
    rcases sm_nth_set L 0 v j with ⟨a, rfl⟩ | ⟨a, b⟩
    · rw [show sm_st1 L 0 v = sm_set L 0 v from rfl, a]; exact self
    · rw [show sm_st1 L 0 v = sm_set L 0 v from rfl, a] at hj ⊢
      exact key j (b.resolve_right hj) hj (by omega)
  | succ i =>
    unfold sm_st1 at hj ⊢
    dsimp only at hj ⊢
    cases hl : sm_isL (sm_nth L i) with
    | false =>
      rw [hl] at hj
      rcases sm_nth_set L (i + 1) v j with ⟨a, rfl⟩ | ⟨a, b⟩
      · rw [show (bif false then sm_set (sm_set L i vU) (i + 1) v else sm_set L (i + 1) v) = sm_set L (i + 1) v from rfl, a]; exact self
      · rw [show (bif false then sm_set (sm_set L i vU) (i + 1) v else sm_set L (i + 1) v) = sm_set L (i + 1) v from rfl, a] at hj ⊢
        exact key j (b.resolve_right hj) hj (fun z => by rw [show j = i by omega]; exact hl)
    | true =>
      rw [hl] at hj
      rcases sm_nth_set (sm_set L i vU) (i + 1) v j with ⟨a, rfl⟩ | ⟨a, b⟩
      · rw [show (bif true then sm_set (sm_set L i vU) (i + 1) v else sm_set L (i + 1) v) = sm_set (sm_set L i vU) (i + 1) v from rfl, a]; exact self
      · rw [show (bif true then sm_set (sm_set L i vU) (i + 1) v else sm_set L (i + 1) v) = sm_set (sm_set L i vU) (i + 1) v from rfl, a] at hj ⊢
        rcases sm_nth_set L i vU j with ⟨a2, -⟩ | ⟨a2, b2⟩
        · exact absurd a2 hj
        · rw [a2] at hj b ⊢
          exact key j (b.resolve_right hj) hj (fun z => absurd (show j = i by omega) (b2.resolve_right hj))
theorem sm_LR.st2 (ho : E.2.2.2.2.2.1 = .null ∨ ∃ a, E.2.2.2.2.2.1 = .ref a) {nL i : Nat} {L : List sm_V} {ls ls' : Array Slot} {x : Int64} (h : sm_LR E σ nL L ls)
    (h' : lv_has ls' nL ((i, .long x) :: (sm_pl E (sm_ad σ) 0 L).filter (fun q => !(q.1 == i) && (!(q.1 == i + 1) && !(q.1 + 1 == i && q.2.category == 2))))) : sm_LR E σ nL (sm_st2 L i (vL x)) ls' := by
  refine ⟨h'.1, h'.2.1, fun j hj => ?_⟩
  unfold sm_st2 at hj ⊢
  rcases sm_nth_set (sm_st1 L i (vL x)) (i + 1) vU j with ⟨a, -⟩ | ⟨a, b⟩
  · exact absurd a hj
  · rw [a] at hj ⊢
    have hj1 : j ≠ i + 1 := b.resolve_right hj
    have key : j ≠ i → sm_nth L j ≠ vU → (j + 1 = i → sm_isL (sm_nth L j) = false) → ls'[j]? = some (.val (sm_rv E (sm_ad σ) (sm_nth L j))) ∧ sm_okv (sm_cnt σ) (sm_nth L j) := by
      intro h1 h2 h3
      refine ⟨h'.2.2 (j, sm_rv E (sm_ad σ) (sm_nth L j)) (List.mem_cons_of_mem _ (List.mem_filter.mpr ⟨?_, ?_⟩)), (h.2.2 j h2).2⟩
      · have := sm_pl_mem (E := E) (sm_ad σ) L 0 j h2
        rw [Nat.zero_add] at this
        exact this
      · simp only [Bool.and_eq_true, Bool.not_eq_true', beq_eq_false_iff_ne, Bool.and_eq_false_iff]
        refine ⟨h1, hj1, ?_⟩
        by_cases hz : j + 1 = i
        · exact Or.inr (by rw [sm_cat_rv (h3 hz) ho]; decide)
        · exact Or.inl hz
    have self : ls'[i]? = some (.val (.long x)) := h'.2.2 (i, .long x) List.mem_cons_self
    cases i with
    | zero =>
      rcases sm_nth_set L 0 (vL x) j with ⟨a, rfl⟩ | ⟨a, b⟩
      · rw [show sm_st1 L 0 (vL x) = sm_set L 0 (vL x) from rfl, a]; exact ⟨self, trivial⟩
      · rw [show sm_st1 L 0 (vL x) = sm_set L 0 (vL x) from rfl, a] at hj ⊢
        exact key (b.resolve_right hj) hj (by omega)
    | succ i =>
      unfold sm_st1 at hj ⊢
      dsimp only at hj ⊢
      cases hl : sm_isL (sm_nth L i) with
      | false =>
        rw [hl] at hj
        rcases sm_nth_set L (i + 1) (vL x) j with ⟨a, rfl⟩ | ⟨a, b⟩
        · rw [show (bif false then sm_set (sm_set L i vU) (i + 1) (vL x) else sm_set L (i + 1) (vL x)) = sm_set L (i + 1) (vL x) from rfl, a]; exact ⟨self, trivial⟩
        · rw [show (bif false then sm_set (sm_set L i vU) (i + 1) (vL x) else sm_set L (i + 1) (vL x)) = sm_set L (i + 1) (vL x) from rfl, a] at hj ⊢
          exact key (b.resolve_right hj) hj (fun z => by rw [show j = i by omega]; exact hl)
      | true =>
        rw [hl] at hj
        rcases sm_nth_set (sm_set L i vU) (i + 1) (vL x) j with ⟨a, rfl⟩ | ⟨a, b⟩
        · rw [show (bif true then sm_set (sm_set L i vU) (i + 1) (vL x) else sm_set L (i + 1) (vL x)) = sm_set (sm_set L i vU) (i + 1) (vL x) from rfl, a]; exact ⟨self, trivial⟩
        · rw [show (bif true then sm_set (sm_set L i vU) (i + 1) (vL x) else sm_set L (i + 1) (vL x)) = sm_set (sm_set L i vU) (i + 1) (vL x) from rfl, a] at hj ⊢
          rcases sm_nth_set L i vU j with ⟨a2, -⟩ | ⟨a2, b2⟩
          · exact absurd a2 hj
          · rw [a2] at hj b ⊢
            exact key (b.resolve_right hj) hj (fun z => absurd (show j = i by omega) (b2.resolve_right hj))
theorem sm_mask_nth : ∀ (L : List sm_V) (n : Nat) (l : List Nat) (i : Nat), sm_nth (sm_mask n l L) i ≠ vU → sm_nth (sm_mask n l L) i = sm_nth L i
  | [], _, _, _, _ => rfl
  | v :: r, n, l, 0, h => by
    show (bif l.contains n then v else vU) = v
    have h : (bif l.contains n then v else vU) ≠ vU := h
    cases hc : l.contains n
    · rw [hc] at h; exact absurd rfl h
    · rfl
  | v :: r, n, l, i + 1, h => sm_mask_nth r (n + 1) l i h
theorem sm_LR.lv {nL : Nat} {L : List sm_V} {ls : Array Slot} (e : sm_E) (h : sm_LR E σ nL L ls) : sm_LR E σ nL (sm_lv e L) ls := by
  unfold sm_lv
  split
  · exact h
  · refine ⟨h.1, h.2.1, fun i hi => ?_⟩
    have q := sm_mask_nth _ _ _ _ hi
    rw [q] at hi
    rw [q]
    exact h.2.2 i hi
end
