section
/-! THE CLASS's HUMP -/
variable {X : Nat × (Nat → Int32)} {d : Nat} {s σ σ' : sm_S} {W W' : zW} {B : Nat × Nat} {v n i k f m r j p : Nat} {c t x : Int32}
theorem fre_some {l : List Int32} (hi : i < l.length) (h0 : l.getD i 0 = 0) (hj : ∀ j, j < i → l.getD j 0 ≠ 0) : l.findIdx? (· == 0) = some i := by
  rw [List.findIdx?_eq_some_iff_getElem]
  have e : ∀ j (h : j < l.length), l.getD j 0 = l[j] := fun j h => by rw [List.getD_eq_getElem?_getD, List.getElem?_eq_getElem h]; rfl
  refine ⟨hi, ?_, fun j hj' => ?_⟩
  · rw [← e i hi, h0]; rfl
  · have := hj j hj'
    rw [e j (by omega)] at this
    simpa using this
theorem fre_none {l : List Int32} (hj : ∀ j, j < l.length → l.getD j 0 ≠ 0) : l.findIdx? (· == 0) = none := by
  rw [List.findIdx?_eq_none_iff]
  intro x hx
  obtain ⟨j, h, rfl⟩ := List.mem_iff_getElem.mp hx
  have := hj j h
  rw [List.getD_eq_getElem?_getD, List.getElem?_eq_getElem h] at this
  simpa using this
theorem fre_s {l : List Int32} (h : l.findIdx? (· == 0) = some i) : i < l.length ∧ l.getD i 0 = 0 ∧ ∀ j, j < i → l.getD j 0 ≠ 0 := by
  rw [List.findIdx?_eq_some_iff_getElem] at h
  obtain ⟨hi, h1, h2⟩ := h
  have e : ∀ j (h : j < l.length), l.getD j 0 = l[j] := fun j h => by rw [List.getD_eq_getElem?_getD, List.getElem?_eq_getElem h]; rfl
  refine ⟨hi, ?_, fun j hj => ?_⟩
  · rw [e i hi]; simpa using h1
  · have := h2 j hj
    rw [e j (by omega)]
    simpa using this
theorem c_free_go (hW : WW W) (h : CW W B σ) (hn : n < (w_r W).length) : ∀ (m i : Nat) (d1 : sm_V), i + m = (rowAt W n).2.length → (∀ j, j < i → (rowAt W n).2.getD j 0 ≠ 0) → sm_go (sm_ZZ X) sm_PP true (sm_callM X true d) 126 6 [vP (16, n), d1, vI (Int32.ofNat i)] [] σ = rI (Int32.ofNat ((freeAt W n).getD (rowAt W n).2.length)) σ
  | 0, i, d1, hi, hj => by
    obtain ⟨k, -, -, hl, -⟩ := hW.2.2.1 n hn
    rw [q_X6_firstFree_6, (h.2.1.2.2.2.2.1 n hn).2.2.2.1, if_neg (by rw [i_lt (by omega) (by omega)]; omega)]
    unfold freeAt
    rw [fre_none (fun j h => hj j (by omega))]; rfl
  | m + 1, i, d1, hi, hj => by
    obtain ⟨k, -, -, hl, -⟩ := hW.2.2.1 n hn
    obtain ⟨-, -, -, k4, k5, k6, k7⟩ := h.2.1.2.2.2.2.1 n hn
    rw [q_X6_firstFree_6, k4, if_pos (by rw [i_lt (by omega) (by omega)]; omega), k5, rq_t, ix_nat (by rw [k6]; omega) (by rw [k6]; omega), k7 i (by omega), i_s]
    by_cases z : (rowAt W n).2.getD i 0 = 0
    · rw [if_pos (pV_0.mpr z)]
      unfold freeAt
      rw [fre_some (by omega) z hj]; rfl
    · rw [if_neg (fun q => z (pV_0.mp q))]
      refine c_free_go hW h hn m (i + 1) vU (by omega) (fun j h => ?_)
      by_cases q : j = i
      · rw [q]; exact z
      · exact hj j (by omega)
theorem c_firstFree (hW : WW W) (h : CW W B σ) (hn : n < (w_r W).length) (hi : i ≤ (rowAt W n).2.length) (hj : ∀ j, j < i → (rowAt W n).2.getD j 0 ≠ 0) : sm_callM X true (d + 2) 126 [vP (16, n), vI (Int32.ofNat i)] σ = rI (Int32.ofNat ((freeAt W n).getD (rowAt W n).2.length)) σ := by
  obtain ⟨k, -, -, hl, -⟩ := hW.2.2.1 n hn
  have hmx : (if (0 : Int32) < Int32.ofNat i then Int32.ofNat i else 0) = Int32.ofNat i := by
    split
    · rfl
    · rename_i q
      rw [show (0 : Int32) = Int32.ofNat 0 from rfl, i_lt (by omega) (by omega)] at q
      rw [show i = 0 by omega]; rfl
  rw [f_X6_firstFree, q_X6_firstFree_0, j_max, bI_r, hmx]
  exact c_free_go hW h hn _ i _ (Nat.add_sub_of_le hi) hj
theorem hump_none (h : freeAt W p = none) : ∀ (m i : Nat), humpW r p m i W = (0, W)
  | 0, _ => rfl
  | m + 1, i => by rw [humpW, h]; exact hump_none h m (i + 1)
theorem c_hump_go (hrs : r ≠ p) : ∀ (m i : Nat) (W : zW) (σ : sm_S) (x : Int32) (y : Nat) (d5 : sm_V), WW W → CW W B σ → r < (w_r W).length → p < (w_r W).length → i + m = (rowAt W r).2.length → y ≤ (rowAt W p).2.length → (∀ j, j < y → (rowAt W p).2.getD j 0 ≠ 0) →
    ∃ σ', sm_go (sm_ZZ X) sm_PP true (sm_callM X true (d + 2)) 125 7 [vP (16, r), vP (16, p), vI x, vI (Int32.ofNat y), vI (Int32.ofNat i), d5] [] σ = rI (x + Int32.ofNat (humpW r p m i W).1) σ' ∧ CW (humpW r p m i W).2 B σ'
  | 0, i, W, σ, x, y, d5, hW, h, hr, hp, hi, hy, hj => by
    obtain ⟨k, -, -, hl, -⟩ := hW.2.2.1 r hr
    rw [q_X6_humpInto_7, (h.2.1.2.2.2.2.1 r hr).2.2.2.1, if_neg (by rw [i_lt (by omega) (by omega)]; omega)]
    refine ⟨_, ?_, h⟩
    show rI x σ = rI (x + 0) σ
    rw [Int32.add_zero]
  | m + 1, i, W, σ, x, y, d5, hW, h, hr, hp, hi, hy, hj => by
    obtain ⟨k, hk, hk2, hl, hcs⟩ := hW.2.2.1 r hr
    obtain ⟨kp, -, -, hlp, -⟩ := hW.2.2.1 p hp
    obtain ⟨-, -, -, k4, k5, k6, k7⟩ := h.2.1.2.2.2.2.1 r hr
    have hlt : i < (rowAt W r).2.length := by omega
    rw [q_X6_humpInto_7, k4, if_pos (by rw [i_lt (by omega) (by omega)]; omega), if_neg (fun q => hrs (congrArg Prod.snd q)), if_pos ⟨Or.inr (show 10 ≤ 16 by omega), Or.inr (show 10 ≤ 16 by omega)⟩, k5, rq_t, ix_nat (by rw [k6]; omega) (by rw [k6]; omega), k7 i hlt, i_s, humpW]
    by_cases z : (rowAt W r).2.getD i 0 = 0
    · rw [if_pos (pV_0.mpr z)]
      obtain ⟨σ', e1, e2⟩ := c_hump_go hrs m (i + 1) W σ x y (vP (pV ((rowAt W r).2.getD i 0))) hW h hr hp (by omega) hy hj
      refine ⟨σ', ?_, ?_⟩
      · rw [e1]
        cases freeAt W p with
        | none => rfl
        | some j => dsimp only; rw [if_pos (Or.inl z)]
      · cases hq : freeAt W p with
        | none => exact e2
        | some j => dsimp only; rw [if_pos (Or.inl z)]; exact e2
    · obtain ⟨v, v1, v2, v3, v4⟩ := cell_ok hW hr hlt z
      have hc := hcs _ (getD_mem z)
      rw [if_neg (fun q => z (pV_0.mp q)), if_pos (by rfl), c_takes hW h hp hc, bI_r]
      by_cases w : fitsR W p ((rowAt W r).2.getD i 0)
      · rw [if_pos w, if_neg (by decide), if_pos (by rfl), c_firstFree hW h hp hy hj, bI_r, if_pos (by rfl), c_hasPlace hW h hp, bI_r]
        cases hq : freeAt W p with
        | none =>
          have hno : ¬ hasPl W p (Int32.ofNat ((none : Option Nat).getD (rowAt W p).2.length)) := fun q => by
            have := q.2
            have e : (Int32.ofNat ((none : Option Nat).getD (rowAt W p).2.length)).toNatClampNeg = (rowAt W p).2.length := i_tn (show (rowAt W p).2.length < 2 ^ 31 by omega)
            rw [e] at this; omega
          rw [if_neg hno, if_pos rfl]
          dsimp only
          rw [hump_none hq]
          exact ⟨σ, by show rI x σ = rI (x + 0) σ; rw [Int32.add_zero], h⟩
        | some j =>
          obtain ⟨j1, j2, j3⟩ := fre_s (l := (rowAt W p).2) hq
          have ej : (Int32.ofNat ((some j : Option Nat).getD (rowAt W p).2.length)) = Int32.ofNat j := rfl
          have et : (Int32.ofNat j).toNatClampNeg = j := i_tn (by omega)
          have hpl : hasPl W p (Int32.ofNat j) := ⟨i_nn (by omega), by rw [et]; exact j1⟩
          rw [ej, if_pos hpl, if_neg (by decide), if_pos (by rfl), c_put hW h hp hpl, bV_r, et]
          have k5' : (sR σ 51 p j (pV ((rowAt W r).2.getD i 0))).2.2.1 16 r 3 = (51, r) := k5
          have k6' : (sR σ 51 p j (pV ((rowAt W r).2.getD i 0))).2.2.2.1 51 r = (rowAt W r).2.length := k6
          rw [k5', rq_t, ix_nat (by rw [k6']; omega) (by rw [k6']; omega)]
          have w2 : ¬ ((rowAt W r).2.getD i 0 = 0 ∨ ¬ fitsR W p ((rowAt W r).2.getD i 0)) := fun q => q.elim z (fun q => q w)
          dsimp only
          rw [if_neg w2]
          obtain ⟨k', k1', k2', k3'⟩ := cOk_fits hW hr hp (getD_mem z) w
          have w1 : WW (setR W p j ((rowAt W r).2.getD i 0)) := WW_setR hW k2' k1' k3'
          have h1 : CW (setR W p j ((rowAt W r).2.getD i 0)) B (sR σ 51 p j (pV ((rowAt W r).2.getD i 0))) := CW_setR h hp
          have l1 : (w_r (setR W p j ((rowAt W r).2.getD i 0))).length = (w_r W).length := List.length_modify _ _ _
          have er : rowAt (setR W p j ((rowAt W r).2.getD i 0)) r = rowAt W r := by rw [rowAt_set, if_neg (fun q => hrs q.1.symm)]
          have ep : rowAt (setR W p j ((rowAt W r).2.getD i 0)) p = ((rowAt W p).1, (rowAt W p).2.set j ((rowAt W r).2.getD i 0)) := by rw [rowAt_set, if_pos ⟨rfl, hp⟩]
          generalize setR W p j ((rowAt W r).2.getD i 0) = W1 at w1 h1 l1 er ep ⊢
          obtain ⟨k'', k1'', k2'', -⟩ := w1.2.2.1 r (by rw [l1]; exact hr)
          have w3 : WW (setR W1 r i 0) := WW_setR w1 k2'' k1'' (Or.inl rfl)
          have h3 : CW (setR W1 r i 0) B (sR (sR σ 51 p j (pV ((rowAt W r).2.getD i 0))) 51 r i (0, 0)) := CW_setR (c := 0) h1 (by rw [l1]; exact hr)
          have l3 : (w_r (setR W1 r i 0)).length = (w_r W).length := (List.length_modify _ _ _).trans l1
          have er3 : (rowAt (setR W1 r i 0) r).2.length = (rowAt W r).2.length := by
            rw [rowAt_set, if_pos ⟨rfl, by rw [l1]; exact hr⟩]
            show ((rowAt W1 r).2.set i 0).length = _
            rw [List.length_set, er]
          have ep3 : (rowAt (setR W1 r i 0) p).2 = (rowAt W p).2.set j ((rowAt W r).2.getD i 0) := by
            rw [rowAt_set, if_neg (fun q => hrs q.1), ep]
          obtain ⟨σ', e1, e2⟩ := c_hump_go hrs m (i + 1) (setR W1 r i 0) _ (x + 1) j (vP (pV ((rowAt W r).2.getD i 0))) w3 h3 (by rw [l3]; exact hr) (by rw [l3]; exact hp) (by rw [er3]; omega) (by rw [ep3, List.length_set]; omega) (fun a ha => by
            rw [ep3, List.getD_eq_getElem?_getD, List.getElem?_set_ne (by omega), ← List.getD_eq_getElem?_getD]
            exact j3 a ha)
          refine ⟨σ', ?_, e2⟩
          rw [e1]
          show rI (x + 1 + Int32.ofNat _) σ' = rI (x + Int32.ofNat (_ + 1)) σ'
          rw [← i_s, Int32.add_assoc, Int32.add_comm 1]
      · rw [if_neg w, if_pos rfl]
        obtain ⟨σ', e1, e2⟩ := c_hump_go hrs m (i + 1) W σ x y (vP (pV ((rowAt W r).2.getD i 0))) hW h hr hp (by omega) hy hj
        refine ⟨σ', ?_, ?_⟩
        · rw [e1]
          cases freeAt W p with
          | none => rfl
          | some j => dsimp only; rw [if_pos (Or.inr w)]
        · cases hq : freeAt W p with
          | none => exact e2
          | some j => dsimp only; rw [if_pos (Or.inr w)]; exact e2
theorem c_hump (hW : WW W) (h : CW W B σ) (hr : r < (w_r W).length) (hp : p < (w_r W).length) : ∃ σ', sm_callM X true (d + 3) 125 [vP (16, r), vP (16, p)] σ = rI (Int32.ofNat (humpW r p (if r = p then 0 else (rowAt W r).2.length) 0 W).1) σ' ∧ CW (humpW r p (if r = p then 0 else (rowAt W r).2.length) 0 W).2 B σ' := by
  rw [f_X6_humpInto, q_X6_humpInto_0]
  by_cases z : r = p
  · subst z
    rw [if_pos rfl, q_X6_humpInto_7]
    refine ⟨σ, ?_, h⟩
    by_cases c : (0 : Int32) < σ.1 16 r 2
    · rw [if_pos c, if_pos rfl]; rfl
    · rw [if_neg c]; rfl
  · rw [if_neg z]
    obtain ⟨σ', e1, e2⟩ := c_hump_go (X := X) (d := d) (B := B) z (rowAt W r).2.length 0 W σ 0 0 vU hW h hr hp (Nat.zero_add _) (Nat.zero_le _) (fun j hj => by omega)
    refine ⟨σ', ?_, e2⟩
    have e1 : sm_go (sm_ZZ X) sm_PP true (sm_callM X true (d + 2)) 125 7 [vP (16, r), vP (16, p), vI 0, vI 0, vI 0, vU] [] σ = rI (0 + Int32.ofNat (humpW r p (rowAt W r).2.length 0 W).1) σ' := e1
    rw [e1, Int32.zero_add]
end
