section
/-! THE WORLD's INVARIANT IS KEPT -/
variable {W W' : zW} {t u c x : Int32} {v n i j f : Nat}
theorem map_mod {α β : Type} {g : α → α} {h : α → β} (hg : ∀ e, h (g e) = h e) : ∀ (l : List α) (n : Nat), (l.modify n g).map h = l.map h
  | [], _ => by simp
  | a :: l, 0 => by simp [hg]
  | a :: l, n + 1 => by rw [List.modify_succ_cons, List.map_cons, List.map_cons, map_mod hg l n]
theorem nSpots_set : nSpots (setR W v i x) = nSpots W := by
  unfold nSpots
  show (((w_r W).modify v _).map _).sum = _
  rw [map_mod (h := fun r : zRw => r.2.length) (g := fun e : zRw => (e.1, e.2.set i x)) (fun e => List.length_set)]
/-- the same things, other faults, said, clock, trains, tracks -/
theorem WW_o (h : WW W) (h1 : w_v W' = w_v W) (h2 : w_r W' = w_r W) (h3 : w_s W' = w_s W) (h4 : ∀ k, k < 8 → VT W 18 (w_t W' k)) (h5 : ∀ e ∈ w_n W', e.1 < (w_r W).length ∧ e.2.1 < 8 ∧ ∃ k, k < 13 ∧ (rowAt W e.1).1 = Int32.ofNat k) (h6 : (w_n W').length ≤ 10) (h7 : w_f W' ≤ 600) (h8 : (w_d W').length ≤ 300) : WW W' := by
  obtain ⟨⟨a1, a2, a3, -⟩, b, c, d, -⟩ := h
  have hle : WLe W W' := WLe_o h1 h2
  have hv : ∀ v, vehAt W' v = vehAt W v := fun v => by unfold vehAt; rw [h1]
  have hr : ∀ v, rowAt W' v = rowAt W v := fun v => by unfold rowAt; rw [h2]
  refine ⟨⟨by rw [h1]; exact a1, by rw [h2]; exact a2, by unfold nSpots; rw [h2]; exact a3, h6, h7, h8⟩, fun v hv' => ?_, fun n hn => ?_, fun k hk => ?_, fun e he => ⟨by rw [h2]; exact (h5 e he).1, (h5 e he).2.1, by rw [hr]; exact (h5 e he).2.2⟩⟩
  · rw [hv]; rw [h1] at hv'
    exact ⟨(b v hv').1, VT_le hle (b v hv').2⟩
  · rw [hr]; rw [h2] at hn
    obtain ⟨k, k1, k2, k3, k4⟩ := c n hn
    exact ⟨k, k1, k2, k3, fun c hc => cOk_le hle (k4 c hc)⟩
  · rw [h3]; exact ⟨(d k hk).1, VT_le hle (h4 k hk)⟩
theorem WW_setR {k : Nat} (h : WW W) (hk : (rowAt W n).1 = Int32.ofNat k) (hk18 : k < 18) (hc : cOk W k x) : WW (setR W n i x) := by
  obtain ⟨⟨a1, a2, a3, a4⟩, b, c, d, e⟩ := h
  have hle : WLe W (setR W n i x) := WLe_setR
  have hl : (w_r (setR W n i x)).length = (w_r W).length := List.length_modify _ _ _
  refine ⟨⟨a1, by rw [hl]; exact a2, by rw [nSpots_set]; exact a3, a4⟩, fun v hv => ⟨(b v hv).1, VT_le hle (b v hv).2⟩, fun m hm => ?_, fun k hk => ⟨(d k hk).1, VT_le hle (d k hk).2⟩, fun q hq => ⟨by rw [hl]; exact (e q hq).1, (e q hq).2.1, by rw [(hle.2.2.2 _ (e q hq).1).1]; exact (e q hq).2.2⟩⟩
  rw [hl] at hm
  obtain ⟨k', k1, k2, k3, k4⟩ := c m hm
  rw [rowAt_set]
  by_cases q : n = m ∧ m < (w_r W).length
  · rw [if_pos q]
    obtain ⟨rfl, -⟩ := q
    have hkk : k' = k := by
      rw [hk] at k2
      exact ((i_eq (by omega) (by omega)).mp k2).symm
    subst hkk
    refine ⟨k', k1, k2, by show ((rowAt W n).2.set i x).length ≤ 40; rw [List.length_set]; exact k3, fun c hc' => ?_⟩
    rcases List.mem_or_eq_of_mem_set hc' with z | z
    · exact cOk_le hle (k4 c z)
    · rw [z]; exact cOk_le hle hc
  · rw [if_neg q]
    exact ⟨k', k1, k2, k3, fun c hc => cOk_le hle (k4 c hc)⟩
end
