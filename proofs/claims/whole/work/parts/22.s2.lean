section
variable {E : sm_G} {w : Bool} {σ σ' : sm_S} {H H' : Heap}
theorem sm_okp.mono {c c' : Nat → Nat} (hc : ∀ t, c t ≤ c' t) {q : Nat × Nat} (h : sm_okp c q) : sm_okp c' q := by
  rcases h with h | h | h | h | h | h
  · exact Or.inl h
  · exact Or.inr (Or.inl h)
  · exact Or.inr (Or.inr (Or.inl h))
  · exact Or.inr (Or.inr (Or.inr (Or.inl h)))
  · exact Or.inr (Or.inr (Or.inr (Or.inr (Or.inl h))))
  · exact Or.inr (Or.inr (Or.inr (Or.inr (Or.inr ⟨h.1, Nat.lt_of_lt_of_le h.2 (hc _)⟩))))
theorem sm_okv.mono {c c' : Nat → Nat} (hc : ∀ t, c t ≤ c' t) {v : sm_V} (h : sm_okv c v) : sm_okv c' v := by
  rcases v with x | x | q | u
  · trivial
  · trivial
  · exact sm_okp.mono hc h
  · trivial
/-- another order of making that agrees on what is there -/
theorem sm_rp_eq {c : Nat → Nat} {a a' : Nat → Nat → Nat} (ha : ∀ t i, 10 ≤ t → i < c t → a' t i = a t i) {q : Nat × Nat} (h : sm_okp c q) : sm_rp E a' q = sm_rp E a q := by
  unfold sm_rp
  rcases h with h | h | h | h | h | h
  · rw [h]; rfl
  · rw [if_neg (by omega), if_pos h, if_neg (by omega), if_pos h]
  · rw [if_neg (by omega), if_neg (by omega), if_pos h.1, if_neg (by omega), if_neg (by omega), if_pos h.1]
  · rw [if_neg (by omega), if_neg (by omega), if_neg (by omega), if_pos h.1, if_neg (by omega), if_neg (by omega), if_neg (by omega), if_pos h.1]
  · rw [if_neg (by omega), if_neg (by omega), if_neg (by omega), if_neg (by omega), if_pos h.1, if_neg (by omega), if_neg (by omega), if_neg (by omega), if_neg (by omega), if_pos h.1]
  · rw [ha _ _ h.1 h.2]
theorem sm_rv_eq {c : Nat → Nat} {a a' : Nat → Nat → Nat} (ha : ∀ t i, 10 ≤ t → i < c t → a' t i = a t i) {v : sm_V} (h : sm_okv c v) : sm_rv E a' v = sm_rv E a v := by
  rcases v with x | x | q | u
  · rfl
  · rfl
  · show va_rf _ = va_rf _
    rw [sm_rp_eq ha h]
  · rfl
theorem sm_st_eq {S : List sm_V} (ha : ∀ t i, 10 ≤ t → i < sm_cnt σ t → sm_ad σ' t i = sm_ad σ t i) (h : sm_SR σ S) : sm_st E σ' S = sm_st E σ S :=
  List.map_congr_left fun v hv => sm_rv_eq ha (h v hv)
theorem sm_SR.mono {S : List sm_V} (hc : ∀ t, sm_cnt σ t ≤ sm_cnt σ' t) (h : sm_SR σ S) : sm_SR σ' S := fun v hv => (h v hv).mono hc
theorem sm_LR.mono {nL : Nat} {L : List sm_V} {ls : Array Slot} (hc : ∀ t, sm_cnt σ t ≤ sm_cnt σ' t) (ha : ∀ t i, 10 ≤ t → i < sm_cnt σ t → sm_ad σ' t i = sm_ad σ t i) (h : sm_LR E σ nL L ls) : sm_LR E σ' nL L ls :=
  ⟨h.1, h.2.1, fun i hi => ⟨by rw [sm_rv_eq ha (h.2.2 i hi).2]; exact (h.2.2 i hi).1, (h.2.2 i hi).2.mono hc⟩⟩
theorem sm_LR.same {nL : Nat} {L : List sm_V} {ls : Array Slot} (he : σ'.2.2.2 = σ.2.2.2) (h : sm_LR E σ nL L ls) : sm_LR E σ' nL L ls := by
  have h1 : sm_cnt σ' = sm_cnt σ := by show σ'.2.2.2.2.1 = _; rw [he]
  have h2 : sm_ad σ' = sm_ad σ := by show σ'.2.2.2.2.2.1 = _; rw [he]
  unfold sm_LR at h ⊢
  rw [h1, h2]
  exact h
/-- a field of an object that is there, as a value that is there -/
theorem sm_fk_kd : ∀ t, 10 ≤ t → t < 24 → ∀ kd ∈ sm_fk t, kd ≤ 3 ∨ 10 ≤ kd := by
  have h : ∀ u, u < 14 → ∀ kd ∈ sm_fk (u + 10), kd ≤ 3 ∨ 10 ≤ kd := by decide +kernel
  intro t h1 h2 kd hk
  exact h (t - 10) (by omega) kd (by rw [Nat.sub_add_cancel h1]; exact hk)
theorem sm_gf_ok (h : sm_HR E w σ H) {t i k kd : Nat} (ht : 10 ≤ t) (ht2 : t < 24) (hi : i < sm_cnt σ t) (hk : (sm_fk t)[k]? = some kd) : sm_okv (sm_cnt σ) (sm_gf w t k kd i σ) := by
  obtain ⟨-, -, -, -, -, h6, h7⟩ := h
  rcases sm_fk_kd t ht ht2 kd (List.mem_of_getElem? hk) with q | q
  · rcases (show kd = 0 ∨ kd = 1 ∨ kd = 2 ∨ kd = 3 by omega) with rfl | rfl | rfl | rfl
    · trivial
    · trivial
    · exact h6 t i k
    · trivial
  · obtain ⟨n, rfl⟩ := Nat.exists_eq_add_of_le q
    rw [show 10 + n = (n + 6) + 4 by omega] at *
    cases w with
    | true => exact Or.inr (Or.inr (Or.inr (Or.inr (Or.inr ⟨q, h7 rfl t i k _ ht hi hk q⟩))))
    | false => exact h6 t i k
/-- a cell, in another state that is the same as to it -/
theorem sm_cell.same {t i : Nat} (h : sm_cell E w σ H t i) (he : σ'.2.2.2 = σ.2.2.2) (hm : ∀ k, σ'.1 t i k = σ.1 t i k ∧ σ'.2.1 t i k = σ.2.1 t i k ∧ σ'.2.2.1 t i k = σ.2.2.1 t i k) (hq : H'[E.1 + sm_ad σ t i]? = H[E.1 + sm_ad σ t i]?) : sm_cell E w σ' H' t i := by
  have h2 : sm_ad σ' = sm_ad σ := by show σ'.2.2.2.2.2.1 = _; rw [he]
  have h3 : σ'.2.2.2.1 = σ.2.2.2.1 := by rw [he]
  have h4 : ∀ k kd, sm_gf w t k kd i σ' = sm_gf w t k kd i σ := by
    intro k kd
    unfold sm_gf
    obtain ⟨a, b, c⟩ := hm k
    rw [a, b, c]
  have h5 : sm_fv E w σ' t i = sm_fv E w σ t i := by
    funext k
    unfold sm_fv
    rw [h4, h2]
  have h6 : sm_av E σ' t i = sm_av E σ t i := by
    funext k
    unfold sm_av
    obtain ⟨a, b, c⟩ := hm k
    rw [a, b, c, h2]
  have h7 : sm_al σ' t i = sm_al σ t i := by unfold sm_al; rw [h3]
  unfold sm_cell at h ⊢
  rw [h2, h5, h6, h7, hq]
  rcases h with h | h | h
  · exact Or.inl ⟨h.1, h.2.kept hq⟩
  · exact Or.inr (Or.inl h)
  · exact Or.inr (Or.inr h)
/-- one cell is written -/
theorem sm_HR.set {t i : Nat} (h : sm_HR E w σ H) (ht : 10 ≤ t) (hi : i < sm_cnt σ t) (he : σ'.2.2.2 = σ.2.2.2)
    (hm : ∀ t' i' k, ¬ (t' = t ∧ i' = i) → σ'.1 t' i' k = σ.1 t' i' k ∧ σ'.2.1 t' i' k = σ.2.1 t' i' k ∧ σ'.2.2.1 t' i' k = σ.2.2.1 t' i' k) (hok : ∀ k, sm_okp (sm_cnt σ) (σ'.2.2.1 t i k))
    (hs : H'.size = H.size) (hq : ∀ q, q ≠ E.1 + sm_ad σ t i → H'[q]? = H[q]?) (hc : sm_cell E w σ' H' t i) : sm_HR E w σ' H' := by
  obtain ⟨h1, h2, h3, h4, h5, h6, h7⟩ := h
  have e1 : sm_cnt σ' = sm_cnt σ := by show σ'.2.2.2.2.1 = _; rw [he]
  have e2 : sm_ad σ' = sm_ad σ := by show σ'.2.2.2.2.2.1 = _; rw [he]
  have e3 : sm_cells σ' = sm_cells σ := by show σ'.2.2.2.2.2.2.1 = _; rw [he]
  unfold sm_HR
  rw [e1, e2, e3]
  refine ⟨hs.trans h1, fun q hq' => ?_, fun t' i' ht' hi' => ⟨(h3 t' i' ht' hi').1, ?_⟩, h4, fun t' i' k hk => ?_, fun t' i' k => ?_, h7⟩
  · rw [hq q (by omega)]; exact h2 q hq'
  · by_cases hx : t' = t ∧ i' = i
    · obtain ⟨rfl, rfl⟩ := hx; exact hc
    · refine (h3 t' i' ht' hi').2.same he (fun k => hm t' i' k hx) (hq _ fun hz => hx ?_)
      exact h4 t' i' t i ht' hi' ht hi (by omega)
  · have hx : ¬ (t' = t ∧ i' = i) := by rintro ⟨rfl, rfl⟩; omega
    obtain ⟨a, b, c⟩ := hm t' i' k hx
    rw [a, b, c]
    exact h5 t' i' k hk
  · by_cases hx : t' = t ∧ i' = i
    · obtain ⟨rfl, rfl⟩ := hx; exact hok k
    · rw [(hm t' i' k hx).2.2]; exact h6 t' i' k
theorem sm_up3_ne {α : Type} {f : Nat → Nat → Nat → α} {t i k t' i' k' : Nat} {v : α} (h : ¬ (t' = t ∧ i' = i)) : sm_up3 f t i k v t' i' k' = f t' i' k' := by
  unfold sm_up3
  rw [if_neg (fun q => h ⟨q.1, q.2.1⟩)]
theorem sm_up3_k {α : Type} {f : Nat → Nat → Nat → α} {t i k k' : Nat} {v : α} : sm_up3 f t i k v t i k' = if k' = k then v else f t i k' := by
  unfold sm_up3
  by_cases h : k' = k <;> simp [h]
/-- one cell is made -/
theorem sm_HR.new {t n m : Nat} (h : sm_HR E w σ H) (ht : 10 ≤ t) (ht2 : t < 97) (hw : w = true → t < 24 → t = 16 ∨ t = 18 ∨ t = 19) (hs : H'.size = H.size + 1) (hq : ∀ q, q < H.size → H'[q]? = H[q]?)
    (hc : sm_cell E w (sN σ t n m) H' t (sm_cnt σ t)) : sm_HR E w (sN σ t n m) H' ∧ (∀ t', sm_cnt σ t' ≤ sm_cnt (sN σ t n m) t') ∧ (∀ t' i', 10 ≤ t' → i' < sm_cnt σ t' → sm_ad (sN σ t n m) t' i' = sm_ad σ t' i') := by
  have h0 := h
  obtain ⟨h1, h2, h3, h4, h5, h6, h7⟩ := h
  have c1 : ∀ t', sm_cnt (sN σ t n m) t' = if t' = t then sm_cnt σ t + 1 else sm_cnt σ t' := fun t' => rfl
  have a1 : ∀ t' i', sm_ad (sN σ t n m) t' i' = if t' = t ∧ i' = sm_cnt σ t then sm_cells σ else sm_ad σ t' i' := fun t' i' => rfl
  have cm : ∀ t', sm_cnt σ t' ≤ sm_cnt (sN σ t n m) t' := by
    intro t'
    rw [c1]
    split
    · rename_i q; subst q; omega
    · exact Nat.le_refl _
  have am : ∀ t' i', i' < sm_cnt σ t' → sm_ad (sN σ t n m) t' i' = sm_ad σ t' i' := by
    intro t' i' hi'
    rw [a1, if_neg]
    rintro ⟨rfl, rfl⟩
    omega
  have hold : ∀ t' i', 10 ≤ t' → i' < sm_cnt (sN σ t n m) t' → i' < sm_cnt σ t' ∨ (t' = t ∧ i' = sm_cnt σ t) := by
    intro t' i' _ hi'
    rw [c1] at hi'
    by_cases q : t' = t
    · rw [if_pos q] at hi'
      subst q
      omega
    · rw [if_neg q] at hi'
      exact Or.inl hi'
  refine ⟨⟨?_, fun q hq' => ?_, fun t' i' ht' hi' => ?_, fun t1 i1 t2 i2 g1 g2 g3 g4 g5 => ?_, fun t' i' k hk => h5 t' i' k (Nat.le_trans (cm t') hk), fun t' i' k => (h6 t' i' k).mono cm, fun hw' t' i' k kd ht' hi' hk hkd => ?_⟩, cm, fun t' i' _ hi' => am t' i' hi'⟩
  · show H'.size = E.1 + (sm_cells σ + 1)
    omega
  · rw [hq q (by omega)]; exact h2 q hq'
  · show sm_ad (sN σ t n m) t' i' < sm_cells σ + 1 ∧ _
    rcases hold t' i' ht' hi' with q | ⟨rfl, rfl⟩
    · obtain ⟨u1, u2⟩ := h3 t' i' ht' q
      rw [am t' i' q]
      refine ⟨by omega, ?_⟩
      have hh : H'[E.1 + sm_ad σ t' i']? = H[E.1 + sm_ad σ t' i']? := hq _ (by omega)
      have e5 : ∀ k, k < (sm_fk t').length → t' < 24 → sm_fv E w (sN σ t n m) t' i' k = sm_fv E w σ t' i' k := by
        intro k hk h24
        have hgd : (sm_fk t')[k]? = some ((sm_fk t').getD k 0) := by simp [List.getD, hk]
        exact sm_rv_eq (fun a b c d => am a b d) (sm_gf_ok h0 ht' h24 q hgd)
      have e6 : sm_av E (sN σ t n m) t' i' = sm_av E σ t' i' := by
        funext k
        unfold sm_av
        split
        · rfl
        · rfl
        · rfl
        · show va_rf _ = va_rf _
          rw [show (sN σ t n m).2.2.1 t' i' k = σ.2.2.1 t' i' k from rfl, sm_rp_eq (fun a b c d => am a b d) (h6 t' i' k)]
      have e7 : sm_al (sN σ t n m) t' i' = sm_al σ t' i' := by
        unfold sm_al
        show (bif _ then sm_up2 σ.2.2.2.1 t (sm_cnt σ t) m t' i' else _) = _
        unfold sm_up2
        rw [if_neg (by rintro ⟨rfl, rfl⟩; omega)]
      unfold sm_cell at u2 ⊢
      rw [am t' i' q, e6, e7, hh]
      rcases u2 with u | u | u
      · exact Or.inl ⟨u.1, (u.2.kept hh).to fun k hk => (e5 k hk u.1).symm⟩
      · exact Or.inr (Or.inl u)
      · exact Or.inr (Or.inr u)
    · refine ⟨?_, hc⟩
      rw [a1, if_pos ⟨rfl, rfl⟩]
      omega
  · rcases hold t1 i1 g1 g2 with q1 | ⟨rfl, rfl⟩ <;> rcases hold t2 i2 g3 g4 with q2 | ⟨rfl, rfl⟩
    · rw [am t1 i1 q1, am t2 i2 q2] at g5
      exact h4 t1 i1 t2 i2 g1 q1 g3 q2 g5
    · rw [am t1 i1 q1, a1, if_pos ⟨rfl, rfl⟩] at g5
      have := (h3 t1 i1 g1 q1).1
      omega
    · rw [am t2 i2 q2, a1, if_pos ⟨rfl, rfl⟩] at g5
      have := (h3 t2 i2 g3 q2).1
      omega
    · exact ⟨rfl, rfl⟩
  · rcases hold t' i' ht' hi' with q | ⟨rfl, rfl⟩
    · exact Nat.lt_of_lt_of_le (h7 hw' t' i' k kd ht' q hk hkd) (cm kd)
    · have h24 : t' < 24 := by
        by_cases z : t' < 24
        · exact z
        · have : sm_fk t' = [] := by
            have hh : ∀ u, u < 73 → sm_fk (u + 24) = [] := by decide +kernel
            have := hh (t' - 24) (by omega)
            rw [Nat.sub_add_cancel (by omega)] at this
            exact this
          rw [this] at hk
          simp at hk
      have hm := List.mem_of_getElem? hk
      rcases hw hw' h24 with rfl | rfl | rfl
      · have : ∀ kd ∈ sm_fk 16, kd < 10 := by decide +kernel
        have := this kd hm; omega
      · have : ∀ kd ∈ sm_fk 18, kd < 10 := by decide +kernel
        have := this kd hm; omega
      · have : ∀ kd ∈ sm_fk 19, kd < 10 := by decide +kernel
        have := this kd hm; omega
end
