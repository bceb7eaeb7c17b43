section
/-! THE WORLD's INVARIANT IS KEPT: the rest -/
variable {W W' : zW} {t u c x : Int32} {v n i j f : Nat}
theorem WW_setV (h : WW W) (h1 : f = 1 → VT W 0 x) (h8 : f = 8 → cBel (vehAt W v).1 17 = 1) : WW (setV W v f x) := by
  obtain ⟨⟨a1, a2⟩, b, c, d, e⟩ := h
  have hle : WLe W (setV W v f x) := WLe_setV
  have hl : (w_v (setV W v f x)).length = (w_v W).length := List.length_modify _ _ _
  refine ⟨⟨by rw [hl]; exact a1, a2⟩, fun m hm => ?_, fun m hm => ?_, fun k hk => ⟨(d k hk).1, VT_le hle (d k hk).2⟩, e⟩
  · rw [hl] at hm
    obtain ⟨⟨k, k1, k2, k3⟩, k4⟩ := b m hm
    rw [vehAt_set]
    by_cases q : v = m ∧ m < (w_v W).length
    · rw [if_pos q]
      obtain ⟨rfl, -⟩ := q
      refine ⟨⟨k, k1, k2, fun z => ?_⟩, ?_⟩
      · show fset (vehAt W v).2 f x 8 = 0
        unfold fset
        by_cases y : 8 = f
        · rw [if_pos y]; exact absurd (by rw [← k2]; exact h8 y.symm) z
        · rw [if_neg y]; exact k3 z
      · show VT _ 0 (fset (vehAt W v).2 f x 1)
        unfold fset
        by_cases y : 1 = f
        · rw [if_pos y]; exact VT_le hle (h1 y.symm)
        · rw [if_neg y]; exact VT_le hle k4
    · rw [if_neg q]
      exact ⟨⟨k, k1, k2, k3⟩, VT_le hle k4⟩
  · obtain ⟨k', k1, k2, k3, k4⟩ := c m hm
    exact ⟨k', k1, k2, k3, fun c hc => cOk_le hle (k4 c hc)⟩
theorem getD_app {α : Type} {l : List α} {d e : α} : (l ++ [e]).getD n d = if n < l.length then l.getD n d else if n = l.length then e else d := by
  rw [List.getD_eq_getElem?_getD, List.getD_eq_getElem?_getD]
  rcases Nat.lt_or_ge n l.length with z | z
  · rw [if_pos z, List.getElem?_append_left z]
  · rw [if_neg (by omega), List.getElem?_append_right z]
    by_cases q : n = l.length
    · rw [if_pos q, q]; simp
    · rw [if_neg q, List.getElem?_eq_none (by simp; omega)]; rfl
theorem vehAt_new {e : zVh} : vehAt (wV W (w_v W ++ [e])) n = if n < (w_v W).length then vehAt W n else if n = (w_v W).length then e else (0, fun _ => 0) := getD_app
theorem rowAt_new {e : zRw} : rowAt (wR W (w_r W ++ [e])) n = if n < (w_r W).length then rowAt W n else if n = (w_r W).length then e else (0, []) := getD_app
theorem WW_newV {k : Nat} (h : WW W) (hl : (w_v W).length < 300) (hk : k < 13) : WW (wV W (w_v W ++ [((Int32.ofNat k, fun _ => (0 : Int32)) : zVh)])) := by
  obtain ⟨⟨a1, a2⟩, b, c, d, e⟩ := h
  have hle : WLe W (wV W (w_v W ++ [((Int32.ofNat k, fun _ => (0 : Int32)) : zVh)])) := WLe_newV
  have hn : (w_v (wV W (w_v W ++ [((Int32.ofNat k, fun _ => (0 : Int32)) : zVh)]))).length = (w_v W).length + 1 := by show (w_v W ++ [_]).length = _; simp
  refine ⟨⟨by rw [hn]; exact hl, a2⟩, fun m hm => ?_, fun m hm => ?_, fun k hk => ⟨(d k hk).1, VT_le hle (d k hk).2⟩, e⟩
  · rw [hn] at hm
    rw [vehAt_new]
    by_cases q : m < (w_v W).length
    · rw [if_pos q]
      exact ⟨(b m q).1, VT_le hle (b m q).2⟩
    · rw [if_neg q, if_pos (by omega)]
      exact ⟨⟨k, hk, rfl, fun _ => rfl⟩, Or.inr (Or.inr (Or.inl rfl))⟩
  · obtain ⟨k', k1, k2, k3, k4⟩ := c m hm
    exact ⟨k', k1, k2, k3, fun c hc => cOk_le hle (k4 c hc)⟩
theorem WW_newR {k m : Nat} (h : WW W) (hl : (w_r W).length < 200) (hk : k < 18) (hm : m ≤ 40) (hs : nSpots W + m ≤ 2000) : WW (wR W (w_r W ++ [((Int32.ofNat k, List.replicate m (0 : Int32)) : zRw)])) := by
  obtain ⟨⟨a1, a2, a3, a4⟩, b, c, d, e⟩ := h
  have hle : WLe W (wR W (w_r W ++ [((Int32.ofNat k, List.replicate m (0 : Int32)) : zRw)])) := WLe_newR
  have hn : (w_r (wR W (w_r W ++ [((Int32.ofNat k, List.replicate m (0 : Int32)) : zRw)]))).length = (w_r W).length + 1 := by show (w_r W ++ [_]).length = _; simp
  have hsp : nSpots (wR W (w_r W ++ [((Int32.ofNat k, List.replicate m (0 : Int32)) : zRw)])) = nSpots W + m := by
    show ((w_r W ++ [((Int32.ofNat k, List.replicate m (0 : Int32)) : zRw)]).map (fun r : zRw => r.2.length)).sum = _
    rw [List.map_append, List.sum_append]
    show nSpots W + ((List.replicate m (0 : Int32)).length + 0) = _
    rw [List.length_replicate]; rfl
  refine ⟨⟨a1, by rw [hn]; exact hl, by rw [hsp]; exact hs, a4⟩, fun m hm => ⟨(b m hm).1, VT_le hle (b m hm).2⟩, fun q hq => ?_, fun k hk => ⟨(d k hk).1, VT_le hle (d k hk).2⟩, fun q hq => ⟨by rw [hn]; exact Nat.lt_succ_of_lt (e q hq).1, (e q hq).2.1, by rw [(hle.2.2.2 _ (e q hq).1).1]; exact (e q hq).2.2⟩⟩
  rw [hn] at hq
  rw [rowAt_new]
  by_cases z : q < (w_r W).length
  · rw [if_pos z]
    obtain ⟨k', k1, k2, k3, k4⟩ := c q z
    exact ⟨k', k1, k2, k3, fun c hc => cOk_le hle (k4 c hc)⟩
  · rw [if_neg z, if_pos (by omega)]
    refine ⟨k, hk, rfl, by show (List.replicate m (0 : Int32)).length ≤ 40; rw [List.length_replicate]; exact hm, fun c hc => Or.inl ?_⟩
    exact List.eq_of_mem_replicate hc
theorem getD_mem {l : List Int32} (h : l.getD i 0 ≠ 0) : l.getD i 0 ∈ l := by
  rw [List.getD_eq_getElem?_getD] at h ⊢
  cases hq : l[i]? with
  | none => rw [hq] at h; exact absurd rfl h
  | some e => exact List.mem_of_getElem? hq
/-- a vehicle of a row fits another -/
theorem cOk_fits {r s : Nat} (h : WW W) (hr : r < (w_r W).length) (hs : s < (w_r W).length) (hc : c ∈ (rowAt W r).2) (hf : fitsR W s c) : ∃ k, k < 18 ∧ (rowAt W s).1 = Int32.ofNat k ∧ cOk W k c := by
  obtain ⟨k, k1, k2, -⟩ := h.2.2.1 s hs
  obtain ⟨k', k1', k2', -, k4'⟩ := h.2.2.1 r hr
  refine ⟨k, k1, k2, ?_⟩
  rcases k4' c hc with q | ⟨v, j, q1, q2, q3, q4, q5⟩
  · exact Or.inl q
  · have hv := h.1.1
    rcases hf with z | z
    · exact Or.inl z
    · rw [q2, ixV_rf (by omega), q4, k2] at z
      exact Or.inr ⟨v, j, q1, q2, q3, q4, z⟩
theorem WW_hump {r s : Nat} : ∀ (n i : Nat) (W : zW), WW W → r < (w_r W).length → s < (w_r W).length → WW (humpW r s n i W).2 ∧ WLe W (humpW r s n i W).2 ∧ (humpW r s n i W).1 ≤ n
  | 0, i, W, h, _, _ => ⟨h, WLe.refl W, Nat.le_refl _⟩
  | n + 1, i, W, h, hr, hs => by
    rw [humpW]
    cases freeAt W s with
    | none =>
      obtain ⟨h1, h2, h3⟩ := WW_hump n (i + 1) W h hr hs
      exact ⟨h1, h2, Nat.le_succ_of_le h3⟩
    | some j =>
      dsimp only
      by_cases q : (rowAt W r).2.getD i 0 = 0 ∨ ¬ fitsR W s ((rowAt W r).2.getD i 0)
      · rw [if_pos q]
        obtain ⟨h1, h2, h3⟩ := WW_hump n (i + 1) W h hr hs
        exact ⟨h1, h2, Nat.le_succ_of_le h3⟩
      · rw [if_neg q]
        have q1 : (rowAt W r).2.getD i 0 ≠ 0 := fun z => q (Or.inl z)
        have q2 : fitsR W s ((rowAt W r).2.getD i 0) := Decidable.byContradiction (fun z => q (Or.inr z))
        obtain ⟨k, k1, k2, k3⟩ := cOk_fits h hr hs (getD_mem q1) q2
        have w1 : WW (setR W s j ((rowAt W r).2.getD i 0)) := WW_setR h k2 k1 k3
        have l1 : (w_r (setR W s j ((rowAt W r).2.getD i 0))).length = (w_r W).length := List.length_modify _ _ _
        have l2 : WLe W (setR W s j ((rowAt W r).2.getD i 0)) := WLe_setR
        generalize setR W s j ((rowAt W r).2.getD i 0) = W1 at w1 l1 l2 ⊢
        obtain ⟨k', k1', k2', -⟩ := w1.2.2.1 r (by rw [l1]; exact hr)
        have w2 : WW (setR W1 r i 0) := WW_setR w1 k2' k1' (Or.inl rfl)
        have l3 : WLe W1 (setR W1 r i 0) := WLe_setR
        have l4 : (w_r (setR W1 r i 0)).length = (w_r W).length := (List.length_modify _ _ _).trans l1
        obtain ⟨h1, h2, h3⟩ := WW_hump n (i + 1) _ w2 (by rw [l4]; exact hr) (by rw [l4]; exact hs)
        exact ⟨h1, (l2.trans l3).trans h2, Nat.succ_le_succ h3⟩
end
