section
/-! THE REFERENCE's HUMP -/
variable {X : Nat × (Nat → Int32)} {d : Nat} {s σ σ' : sm_S} {W W' : zW} {v n i k f m j p r : Nat} {c t x u : Int32}
theorem m_free_go (hW : WW W) (h : MW W σ) (hn : n < (w_r W).length) {a1 a3 a4 a5 : Int32} : ∀ (m i : Nat), i + m = (rowAt W n).2.length → (∀ j, j < i → (rowAt W n).2.getD j 0 ≠ 0) → sm_go (sm_ZZ X) sm_PP true (sm_callM X true d) 271 40 [vP (23, 0), vI a1, vI (Int32.ofNat n), vI a3, vI a4, vI a5, vI (Int32.ofNat i)] [] σ = sm_go (sm_ZZ X) sm_PP true (sm_callM X true d) 271 74 [vP (23, 0), vI a1, vI (Int32.ofNat n), vI a3, vI a4, vI a5, vI (Int32.ofNat ((freeAt W n).getD (rowAt W n).2.length))] [] σ
  | 0, i, hi, hj => by
    obtain ⟨k, -, -, hl, -⟩ := hW.2.2.1 n hn
    have a2 := hW.1.2.1
    rw [q_X13_hump_40, ix_nat (by omega) (by omega), (h.2.1.2.2.1 n hn).2.2.1, if_neg (by rw [i_lt (by omega) (by omega)]; omega)]
    unfold freeAt
    rw [fre_none (fun j h => hj j (by omega)), show i = (rowAt W n).2.length by omega]; rfl
  | m + 1, i, hi, hj => by
    obtain ⟨k, -, -, hl, -⟩ := hW.2.2.1 n hn
    have a2 := hW.1.2.1
    obtain ⟨k1, k2, k3, k4⟩ := h.2.1.2.2.1 n hn
    rw [q_X13_hump_40, ix_nat (by omega) (by omega), k3, if_pos (by rw [i_lt (by omega) (by omega)]; omega), ix_nat (by omega) (by omega), k2, cell_m hW h hn (by omega), k4 i (by omega), i_s]
    by_cases z : (rowAt W n).2.getD i 0 = 0
    · rw [if_pos z]
      unfold freeAt
      rw [fre_some (by omega) z hj]; rfl
    · rw [if_neg z]
      refine m_free_go hW h hn m (i + 1) (by omega) (fun j h => ?_)
      by_cases q : j = i
      · rw [q]; exact z
      · exact hj j (by omega)
theorem m_hump_go (hrs : r ≠ p) : ∀ (m i : Nat) (W : zW) (σ : sm_S) (x : Int32) (d5 d6 : sm_V), WW W → MW W σ → r < (w_r W).length → p < (w_r W).length → i + m = (rowAt W r).2.length →
    ∃ σ', sm_go (sm_ZZ X) sm_PP true (sm_callM X true (d + 5)) 271 5 [vP (23, 0), vI (Int32.ofNat r), vI (Int32.ofNat p), vI x, vI (Int32.ofNat i), d5, d6] [] σ = rI (x + Int32.ofNat (humpW r p m i W).1) σ' ∧ MW (humpW r p m i W).2 σ'
  | 0, i, W, σ, x, d5, d6, hW, h, hr, hp, hi => by
    obtain ⟨k, -, -, hl, -⟩ := hW.2.2.1 r hr
    have a2 := hW.1.2.1
    rw [q_X13_hump_5, ix_nat (by omega) (by omega), (h.2.1.2.2.1 r hr).2.2.1, if_neg (by rw [i_lt (by omega) (by omega)]; omega)]
    refine ⟨_, ?_, h⟩
    show rI x σ = rI (x + 0) σ
    rw [Int32.add_zero]
  | m + 1, i, W, σ, x, d5, d6, hW, h, hr, hp, hi => by
    obtain ⟨k, hk, hk2, hl, hcs⟩ := hW.2.2.1 r hr
    obtain ⟨kp, -, -, hlp, -⟩ := hW.2.2.1 p hp
    have a2 := hW.1.2.1
    obtain ⟨k1, k2, k3, k4⟩ := h.2.1.2.2.1 r hr
    obtain ⟨p1, p2, p3, p4⟩ := h.2.1.2.2.1 p hp
    have hlt : i < (rowAt W r).2.length := by omega
    rw [q_X13_hump_5, ix_nat (by omega) (by omega), k3, if_pos (by rw [i_lt (by omega) (by omega)]; omega), if_neg (by rw [i_eq (by omega) (by omega)]; exact hrs), ix_nat (by omega) (by omega), k2, cell_m hW h hr hlt, k4 i hlt, show (vI 0 : sm_V) = vI (Int32.ofNat 0) from rfl, m_free_go hW h hp (rowAt W p).2.length 0 (Nat.zero_add _) (fun j hj => by omega), q_X13_hump_74, i_s, humpW]
    by_cases z : (rowAt W r).2.getD i 0 = 0
    · rw [if_pos z]
      obtain ⟨σ', e1, e2⟩ := m_hump_go hrs m (i + 1) W σ x (vI ((rowAt W r).2.getD i 0)) (vI (Int32.ofNat ((freeAt W p).getD (rowAt W p).2.length))) hW h hr hp (by omega)
      refine ⟨σ', ?_, ?_⟩
      · rw [e1]
        cases freeAt W p with
        | none => rfl
        | some j => dsimp only; rw [if_pos (Or.inl z)]
      · cases hq : freeAt W p with
        | none => exact e2
        | some j => dsimp only; rw [if_pos (Or.inl z)]; exact e2
    · have hc := hcs _ (getD_mem z)
      rw [if_neg z, ix_nat (by omega) (by omega), p3]
      cases hq : freeAt W p with
      | none =>
        rw [show ((none : Option Nat).getD (rowAt W p).2.length) = (rowAt W p).2.length from rfl, if_pos rfl]
        dsimp only
        exact m_hump_go hrs m (i + 1) W σ x _ _ hW h hr hp (by omega)
      | some j =>
        obtain ⟨j1, j2, j3⟩ := fre_s (l := (rowAt W p).2) hq
        have ej : (Int32.ofNat ((some j : Option Nat).getD (rowAt W p).2.length)) = Int32.ofNat j := rfl
        rw [ej, if_neg (by rw [i_eq (by omega) (by omega)]; omega), ix_nat (by omega) (by omega), p1, m_isOfV hW h hk hc hp, bI_r]
        dsimp only
        by_cases w : fitsR W p ((rowAt W r).2.getD i 0)
        · have w2 : ¬ ((rowAt W r).2.getD i 0 = 0 ∨ ¬ fitsR W p ((rowAt W r).2.getD i 0)) := fun q => q.elim z (fun q => q w)
          have hzw : (rowAt W r).2.getD i 0 ≠ 0 ∧ fitsR W p ((rowAt W r).2.getD i 0) := ⟨z, w⟩
          rw [if_pos hzw, if_neg (show ¬ (1 : Int32) = 0 by decide), ix_nat (by omega) (by omega), p2, cell_m hW h hp j1, ix_nat (by omega) (by omega)]
          have e77 : (sI σ 79 0 (frm W p + j) ((rowAt W r).2.getD i 0)).1 77 0 r = Int32.ofNat (frm W r) := k2
          rw [e77, cell_m hW h hr hlt, if_neg w2]
          obtain ⟨k', k1', k2', k3'⟩ := cOk_fits hW hr hp (getD_mem z) w
          have w1 : WW (setR W p j ((rowAt W r).2.getD i 0)) := WW_setR hW k2' k1' k3'
          have h1 : MW (setR W p j ((rowAt W r).2.getD i 0)) (sI σ 79 0 (frm W p + j) ((rowAt W r).2.getD i 0)) := MW_setR h hp j1
          have l1 : (w_r (setR W p j ((rowAt W r).2.getD i 0))).length = (w_r W).length := List.length_modify _ _ _
          have er : rowAt (setR W p j ((rowAt W r).2.getD i 0)) r = rowAt W r := by rw [rowAt_set, if_neg (fun q => hrs q.1.symm)]
          have ef : frm (setR W p j ((rowAt W r).2.getD i 0)) r = frm W r := frm_set
          generalize setR W p j ((rowAt W r).2.getD i 0) = W1 at w1 h1 l1 er ef ⊢
          obtain ⟨k'', k1'', k2'', -⟩ := w1.2.2.1 r (by rw [l1]; exact hr)
          have w3 : WW (setR W1 r i 0) := WW_setR w1 k2'' k1'' (Or.inl rfl)
          have h3 := MW_setR (i := i) (c := 0) h1 (n := r) (by rw [l1]; exact hr) (by rw [er]; exact hlt)
          rw [ef] at h3
          have l3 : (w_r (setR W1 r i 0)).length = (w_r W).length := (List.length_modify _ _ _).trans l1
          have er3 : (rowAt (setR W1 r i 0) r).2.length = (rowAt W r).2.length := by
            rw [rowAt_set, if_pos ⟨rfl, by rw [l1]; exact hr⟩]
            show ((rowAt W1 r).2.set i 0).length = _
            rw [List.length_set, er]
          obtain ⟨σ', e1, e2⟩ := m_hump_go hrs m (i + 1) (setR W1 r i 0) _ (x + 1) (vI ((rowAt W r).2.getD i 0)) (vI (Int32.ofNat j)) w3 h3 (by rw [l3]; exact hr) (by rw [l3]; exact hp) (by rw [er3]; omega)
          refine ⟨σ', ?_, e2⟩
          rw [e1]
          show rI (x + 1 + Int32.ofNat _) σ' = rI (x + Int32.ofNat (_ + 1)) σ'
          rw [← i_s, Int32.add_assoc, Int32.add_comm 1]
        · have hzw : ¬ ((rowAt W r).2.getD i 0 ≠ 0 ∧ fitsR W p ((rowAt W r).2.getD i 0)) := fun y => w y.2
          rw [if_neg hzw, if_pos (show (0 : Int32) = 0 from rfl), if_pos (show (rowAt W r).2.getD i 0 = 0 ∨ ¬ fitsR W p ((rowAt W r).2.getD i 0) from Or.inr w)]
          exact m_hump_go hrs m (i + 1) W σ x _ _ hW h hr hp (by omega)
theorem m_hump (hW : WW W) (h : MW W σ) (hr : r < (w_r W).length) (hp : p < (w_r W).length) : ∃ σ', sm_callM X true (d + 6) 271 [vP (23, 0), vI (Int32.ofNat r), vI (Int32.ofNat p)] σ = rI (Int32.ofNat (humpW r p (if r = p then 0 else (rowAt W r).2.length) 0 W).1) σ' ∧ MW (humpW r p (if r = p then 0 else (rowAt W r).2.length) 0 W).2 σ' := by
  have a2 := hW.1.2.1
  rw [f_X13_hump, q_X13_hump_0]
  by_cases z : r = p
  · subst z
    rw [if_pos rfl, q_X13_hump_5, ix_nat (by omega) (by omega)]
    refine ⟨σ, ?_, h⟩
    by_cases c : (0 : Int32) < σ.1 78 0 r
    · rw [if_pos c, if_pos rfl]; rfl
    · rw [if_neg c]; rfl
  · rw [if_neg z]
    obtain ⟨σ', e1, e2⟩ := m_hump_go (X := X) (d := d) z (rowAt W r).2.length 0 W σ 0 vU vU hW h hr hp (Nat.zero_add _)
    refine ⟨σ', ?_, e2⟩
    have e1 : sm_go (sm_ZZ X) sm_PP true (sm_callM X true (d + 5)) 271 5 [vP (23, 0), vI (Int32.ofNat r), vI (Int32.ofNat p), vI 0, vI 0, vU, vU] [] σ = rI (0 + Int32.ofNat (humpW r p (rowAt W r).2.length 0 W).1) σ' := e1
    rw [e1, Int32.zero_add]
end
