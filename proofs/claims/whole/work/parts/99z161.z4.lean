section
/-! THE CLASS's YARDS ARE CHANGED: rows, tracks, trains, hump -/
variable {X : Nat × (Nat → Int32)} {d : Nat} {s σ σ' : sm_S} {W W' : zW} {B : Nat × Nat} {v n i k f m : Nat} {c t x : Int32}
theorem c_makeR (hW : WW W) (h : CW W B σ) (hr : roomR W (Int32.ofNat m)) (hm : m ≤ 40) : ∃ σ', sm_callM X true (d + 3) 160 [vP (20, 0), vI x, vI (Int32.ofNat m)] σ = rI (rfR (w_r W).length) σ' ∧ CW (wR W (w_r W ++ [((x, List.replicate m (0 : Int32)) : zRw)])) B σ' := by
  have hl := hr.1
  have hsm : nSpots W + m ≤ 2000 := by
    have := hr.2.2
    rw [Int32.toInt_ofNat_of_lt (by omega)] at this
    omega
  have hroom := c_roomR (X := X) (d := d + 1) (c := Int32.ofNat m) hW h
  obtain ⟨a, ⟨b1, b2, b3, b4, b5, b6⟩, c, e, o, z⟩ := h
  have hmx : (if (0 : Int32) < Int32.ofNat m then Int32.ofNat m else 0) = Int32.ofNat m := by
    split
    · rfl
    · rename_i q
      rw [show (0 : Int32) = Int32.ofNat 0 from rfl, i_lt (by omega) (by omega)] at q
      rw [show m = 0 by omega]; rfl
  rw [f_X10_makeRow, q_X10_makeRow_0, if_neg (i_nn (by omega)), hroom, if_pos hr, bI_r, if_neg (by decide), b3]
  rw [show (sN σ 16 4 0).1 20 0 3 = σ.1 20 0 3 from rfl, b1, f_X6_init, q_X6_init_0, j_max, bI_r, hmx]
  have e1 : (sI (sI (sI (sN σ 16 4 0) 16 (w_r W).length 0 x) 16 (w_r W).length 1 (Int32.ofNat (w_r W).length)) 16 (w_r W).length 2 (Int32.ofNat m)).1 16 (w_r W).length 2 = Int32.ofNat m := by rw [gI, if_pos ⟨rfl, rfl, rfl⟩]
  have e3 : (sI (sI (sI (sN σ 16 4 0) 16 (w_r W).length 0 x) 16 (w_r W).length 1 (Int32.ofNat (w_r W).length)) 16 (w_r W).length 2 (Int32.ofNat m)).2.2.2.2.1 51 = (w_r W).length := b4
  rw [e1, e3, i_tn (by omega), if_neg (fun q => by
    rcases q with q | q | q
    · exact i_nn (by omega) q
    · omega
    · exact q (Or.inl rfl)), bV_r, ix_nat (by omega) (by omega)]
  have e4 : (sR (sR (sN (sI (sI (sI (sN σ 16 4 0) 16 (w_r W).length 0 x) 16 (w_r W).length 1 (Int32.ofNat (w_r W).length)) 16 (w_r W).length 2 (Int32.ofNat m)) 51 m m) 16 (w_r W).length 3 (51, (w_r W).length)) 57 0 (w_r W).length (16, (w_r W).length)).1 20 0 3 = Int32.ofNat (w_r W).length := b1
  rw [e4, i_s]
  have e5 : (sI (sR (sR (sN (sI (sI (sI (sN σ 16 4 0) 16 (w_r W).length 0 x) 16 (w_r W).length 1 (Int32.ofNat (w_r W).length)) 16 (w_r W).length 2 (Int32.ofNat m)) 51 m m) 16 (w_r W).length 3 (51, (w_r W).length)) 57 0 (w_r W).length (16, (w_r W).length)) 20 0 3 (Int32.ofNat ((w_r W).length + 1))).1 20 0 4 = Int32.ofNat (nSpots W) := b2
  rw [e5, i_add]
  have hn : (w_r (wR W (w_r W ++ [((x, List.replicate m (0 : Int32)) : zRw)]))).length = (w_r W).length + 1 := by show (w_r W ++ [_]).length = _; simp
  have hsp : nSpots (wR W (w_r W ++ [((x, List.replicate m (0 : Int32)) : zRw)])) = nSpots W + m := by
    show ((w_r W ++ [((x, List.replicate m (0 : Int32)) : zRw)]).map (fun r : zRw => r.2.length)).sum = _
    rw [List.map_append, List.sum_append]
    show nSpots W + ((List.replicate m (0 : Int32)).length + 0) = _
    rw [List.length_replicate]; rfl
  rw [gI, if_neg (by omega), gI, if_pos ⟨rfl, rfl, rfl⟩]
  refine ⟨_, rfl, a, ⟨?_, ?_, ?_, ?_, fun v hv => ?_, fun v k hv => ?_⟩, c, e, o, ?_⟩
  · rw [hn, gI, if_neg (by omega), gI, if_pos ⟨rfl, rfl, rfl⟩]
  · rw [hsp, gI, if_pos ⟨rfl, rfl, rfl⟩]
  · rw [hn]; show σ.2.2.2.2.1 16 + 1 = _; rw [b3]
  · rw [hn]; show σ.2.2.2.2.1 51 + 1 = _; rw [b4]
  · rw [hn] at hv
    rw [rowAt_new]
    by_cases q : v < (w_r W).length
    · obtain ⟨k1, k2, k3, k4, k5, k6, k7⟩ := b5 v q
      rw [if_pos q]
      refine ⟨?_, ?_, ?_, ?_, ?_, ?_, fun i hi => ?_⟩
      · show (if (57 : Nat) = 57 ∧ (0 : Nat) = 0 ∧ v = (w_r W).length then _ else σ.2.2.1 57 0 v) = _
        rw [if_neg (by omega)]; exact k1
      · show (if 16 = 16 ∧ v = (w_r W).length ∧ 0 = 2 then _ else if 16 = 16 ∧ v = (w_r W).length ∧ 0 = 1 then _ else if 16 = 16 ∧ v = (w_r W).length ∧ 0 = 0 then _ else σ.1 16 v 0) = _
        rw [if_neg (by omega), if_neg (by omega), if_neg (by omega)]; exact k2
      · show (if 16 = 16 ∧ v = (w_r W).length ∧ 1 = 2 then _ else if 16 = 16 ∧ v = (w_r W).length ∧ 1 = 1 then _ else if 16 = 16 ∧ v = (w_r W).length ∧ 1 = 0 then _ else σ.1 16 v 1) = _
        rw [if_neg (by omega), if_neg (by omega), if_neg (by omega)]; exact k3
      · show (if 16 = 16 ∧ v = (w_r W).length ∧ 2 = 2 then _ else if 16 = 16 ∧ v = (w_r W).length ∧ 2 = 1 then _ else if 16 = 16 ∧ v = (w_r W).length ∧ 2 = 0 then _ else σ.1 16 v 2) = _
        rw [if_neg (by omega), if_neg (by omega), if_neg (by omega)]; exact k4
      · show (if 16 = 16 ∧ v = (w_r W).length ∧ 3 = 3 then _ else σ.2.2.1 16 v 3) = _
        rw [if_neg (by omega)]; exact k5
      · refine Eq.trans (b := if v = σ.2.2.2.2.1 51 then m else σ.2.2.2.1 51 v) ?_ ?_
        · show (if 51 = 51 ∧ v = σ.2.2.2.2.1 51 then m else σ.2.2.2.1 51 v) = _
          by_cases w : v = σ.2.2.2.2.1 51
          · exact (if_pos ⟨rfl, w⟩).trans (if_pos w).symm
          · exact (if_neg (fun y => w y.2)).trans (if_neg w).symm
        · rw [if_neg (fun w => by rw [b4] at w; omega)]; exact k6
      · exact k7 i hi
    · have q' : v = (w_r W).length := by omega
      rw [if_neg q, if_pos q']
      subst q'
      refine ⟨?_, ?_, ?_, ?_, ?_, ?_, fun i hi => ?_⟩
      · show (if (57 : Nat) = 57 ∧ (0 : Nat) = 0 ∧ (w_r W).length = (w_r W).length then _ else _) = _
        rw [if_pos ⟨rfl, rfl, rfl⟩]
      · show (if 16 = 16 ∧ (w_r W).length = (w_r W).length ∧ 0 = 2 then _ else if 16 = 16 ∧ (w_r W).length = (w_r W).length ∧ 0 = 1 then _ else if 16 = 16 ∧ (w_r W).length = (w_r W).length ∧ 0 = 0 then x else _) = _
        rw [if_neg (by omega), if_neg (by omega), if_pos ⟨rfl, rfl, rfl⟩]
      · show (if 16 = 16 ∧ (w_r W).length = (w_r W).length ∧ 1 = 2 then _ else if 16 = 16 ∧ (w_r W).length = (w_r W).length ∧ 1 = 1 then Int32.ofNat (w_r W).length else _) = _
        rw [if_neg (by omega), if_pos ⟨rfl, rfl, rfl⟩]
      · show (if 16 = 16 ∧ (w_r W).length = (w_r W).length ∧ 2 = 2 then Int32.ofNat m else _) = Int32.ofNat (List.replicate m (0 : Int32)).length
        rw [if_pos ⟨rfl, rfl, rfl⟩, List.length_replicate]
      · show (if 16 = 16 ∧ (w_r W).length = (w_r W).length ∧ 3 = 3 then _ else _) = _
        rw [if_pos ⟨rfl, rfl, rfl⟩]
      · refine Eq.trans (b := m) ?_ List.length_replicate.symm
        show (if 51 = 51 ∧ (w_r W).length = σ.2.2.2.2.1 51 then m else σ.2.2.2.1 51 _) = _
        exact if_pos ⟨rfl, b4.symm⟩
      · have hi : i < (List.replicate m (0 : Int32)).length := hi
        rw [List.length_replicate] at hi
        show σ.2.2.1 51 _ i = pV ((List.replicate m (0 : Int32)).getD i 0)
        rw [b6 _ _ (Nat.le_refl _), List.getD_eq_getElem?_getD, List.getElem?_replicate, if_pos hi]; rfl
  · rw [hn] at hv
    exact b6 v k (by omega)
  · obtain ⟨z1, z2⟩ := z
    unfold CWz
    rw [hn, hsp]
    refine ⟨?_, ?_⟩
    · show σ.2.2.2.2.2.2.1 + 1 + 1 = _ + (w_v W).length + _ + (w_n W).length
      rw [z1]; omega
    · show σ.2.2.2.2.2.2.2 + 4 + m = _ + 8 * (w_v W).length + _ + _ + 5 * (w_n W).length
      rw [z2]; omega
/-! tracks and trains -/
theorem c_isTrack : sm_callM X true (d + 1) 31 [vI c] σ = rI (if isTr c then 1 else 0) σ := by
  rw [f_X2_isTrack, q_X2_isTrack_0]
  by_cases h : c < 0
  · rw [if_pos h, if_neg (fun q => q.1 h)]
  · rw [if_neg h]
    by_cases k : c < 8
    · rw [if_pos k, if_pos ⟨h, k⟩]
    · rw [if_neg k, if_neg (fun q => k q.2)]
theorem isTr_n (h : isTr c) : ∃ k, k < 8 ∧ c = Int32.ofNat k ∧ c.toNatClampNeg = k := by
  obtain ⟨n, n1, n2⟩ := i32_nat (n := 8) (by decide) h.1 h.2
  exact ⟨n, n1, n2, by rw [n2, i_tn (by omega)]⟩
theorem c_rowOn (h : CW W B σ) : sm_callM X true (d + 2) 33 [vP (12, 0), vI c] σ = rP (if isTr c then pR (w_t W c.toNatClampNeg) else (0, 0)) σ := by
  rw [f_X2_rowOn, q_X2_rowOn_0, c_isTrack, bI_r]
  by_cases z : isTr c
  · obtain ⟨k, k1, k2, k3⟩ := isTr_n z
    rw [if_pos z, if_pos z, if_neg (by decide), k3, k2, ix_nat (by omega) (by omega), (h.2.2.1 k k1).2]
  · rw [if_neg z, if_neg z, if_pos rfl]
theorem CW_track (h : CW W B σ) : CW (wTk W (fset (w_t W) k c)) B (sR σ 40 0 k (pR c)) := by
  obtain ⟨a, b, t, e, o, z⟩ := h
  refine ⟨a, b, fun j hj => ⟨(t j hj).1, ?_⟩, e, o, z⟩
  show (if 40 = 40 ∧ 0 = 0 ∧ j = k then pR c else σ.2.2.1 40 0 j) = pR (fset (w_t W) k c j)
  unfold fset
  by_cases q : j = k
  · rw [if_pos ⟨rfl, rfl, q⟩, if_pos q]
  · rw [if_neg (fun w => q w.2.2), if_neg q]; exact (t j hj).2
theorem c_lay (hW : WW W) (h : CW W B σ) (hc : VT W 18 c) : sm_callM X true (d + 2) 34 [vP (12, 0), vI t, vP (pR c)] σ = (if isTr t ∧ (c = 0 ∨ mayLay W t.toNatClampNeg c) then rI 1 (sR σ 40 0 t.toNatClampNeg (pR c)) else rI 0 σ) := by
  have a2 := hW.1.2.1
  rw [f_X2_lay, q_X2_lay_0, c_isTrack, bI_r]
  by_cases z : isTr t
  · obtain ⟨k, k1, k2, k3⟩ := isTr_n z
    rw [if_pos z, if_neg (by decide), k3, k2]
    by_cases y : c = 0
    · rw [if_pos (pR_0.mpr y), ix_nat (by omega) (by omega), if_pos pR_1, if_pos ⟨by rw [← k2]; exact z, Or.inl y⟩]
    · obtain ⟨n, j, n1, rfl, -⟩ := VT_r hc (by decide) (by decide) y
      have hp : pR (rfR n) = (16, n) := by unfold pR; rw [if_neg y, ixR_rf (by omega)]
      rw [if_neg (fun q => y (pR_0.mp q)), hp, rq_t, ix_nat (by omega) (by omega), (h.2.1.2.2.2.2.1 n n1).2.1, (h.2.2.1 k k1).1, c_isBelow, bI_r]
      have hm : mayLay W k (rfR n) ↔ cBel (rowAt W n).1 (w_s W k) = 1 := by unfold mayLay; rw [ixR_rf (by omega)]
      rcases cBel_01 (rowAt W n).1 (w_s W k) with w | w
      · rw [if_pos w, if_neg (fun q => q.2.elim y (fun q => by rw [hm, w] at q; exact absurd q (by decide)))]
      · rw [if_neg (by rw [w]; decide), ix_nat (by omega) (by omega), if_pos (Or.inr rfl), if_pos ⟨by rw [← k2]; exact z, Or.inr (hm.mpr w)⟩]
  · rw [if_neg z, if_pos rfl, if_neg (fun q => z q.1)]
theorem c_send (hW : WW W) (h : CW W B σ) (hn : n < (w_r W).length) : ∃ σ', sm_callM X true (d + 2) 35 [vP (12, 0), vP (16, n), vI t, vI c] σ = rI (sendW W n t c).1 σ' ∧ CW (sendW W n t c).2 B σ' := by
  have a10 := hW.1.2.2.2.1
  rw [f_X2_send, q_X2_send_0, c_isTrack, bI_r]
  unfold sendW
  have no : sm_go (sm_ZZ X) sm_PP true (sm_callM X true (d + 1)) 35 24 [vP (12, 0), vP (16, n), vI t, vI c, vU] [vI 0] σ = rI (-1) σ := by rw [q_X2_send_24, if_pos rfl]
  by_cases z : isTr t
  · rw [if_pos z, if_neg (by decide)]
    by_cases y1 : c < 1
    · rw [if_pos y1, no, if_neg (fun q => q.2.1 y1)]; exact ⟨_, rfl, h⟩
    · rw [if_neg y1]
      by_cases y2 : 1000 < c
      · rw [if_pos y2, no, if_neg (fun q => q.2.2.1 y2)]; exact ⟨_, rfl, h⟩
      · rw [if_neg y2, q_X2_send_24, if_neg (by decide), h.2.2.2.1.1, show (10 : Int32) = Int32.ofNat 10 from rfl]
        by_cases y3 : (w_n W).length < 10
        · rw [if_pos (by rw [i_lt (by omega) (by omega)]; exact y3), if_pos ⟨z, y1, y2, y3⟩, h.2.2.2.1.2.1, f_X8_init, q_X8_init_0, bV_r, ix_nat (by omega) (by omega)]
          obtain ⟨k, k1, k2, k3⟩ := isTr_n z
          have e1 : (sR (sI (sI (sR (sN σ 18 5 0) 18 (w_n W).length 0 (16, n)) 18 (w_n W).length 1 t) 18 (w_n W).length 2 c) 41 0 (w_n W).length (18, (w_n W).length)).1 12 0 3 = Int32.ofNat (w_n W).length := h.2.2.2.1.1
          rw [e1, i_s, gI, if_pos ⟨rfl, rfl, rfl⟩, i_pred]
          obtain ⟨a, b, tt, ⟨n1, n2, n3, n4⟩, o, zz⟩ := h
          have hnn : (w_n (wTn W (w_n W ++ [(n, t.toNatClampNeg, c, 0, 0)]))).length = (w_n W).length + 1 := by show (w_n W ++ [_]).length = _; simp
          refine ⟨_, rfl, a, b, tt, ⟨?_, ?_, fun u e he => ?_, fun u k hu => ?_⟩, o, ?_⟩
          · rw [hnn, gI, if_pos ⟨rfl, rfl, rfl⟩]
          · rw [hnn]; show σ.2.2.2.2.1 18 + 1 = _; rw [n2]
          · have he : (w_n W ++ [(n, t.toNatClampNeg, c, (0 : Int32), (0 : Int32))])[u]? = some e := he
            rcases Nat.lt_or_ge u (w_n W).length with q | q
            · rw [List.getElem?_append_left q] at he
              obtain ⟨m1, m2, m3, m4, m5, m6⟩ := n3 u e he
              refine ⟨?_, ?_, ?_, ?_, ?_, ?_⟩
              · show (if 41 = 41 ∧ 0 = 0 ∧ u = (w_n W).length then _ else σ.2.2.1 41 0 u) = _
                rw [if_neg (by omega)]; exact m1
              · show (if 18 = 18 ∧ u = (w_n W).length ∧ 0 = 0 then _ else σ.2.2.1 18 u 0) = _
                rw [if_neg (by omega)]; exact m2
              · show (if 18 = 18 ∧ u = (w_n W).length ∧ 1 = 2 then _ else if 18 = 18 ∧ u = (w_n W).length ∧ 1 = 1 then _ else σ.1 18 u 1) = _
                rw [if_neg (by omega), if_neg (by omega)]; exact m3
              · show (if 18 = 18 ∧ u = (w_n W).length ∧ 2 = 2 then _ else if 18 = 18 ∧ u = (w_n W).length ∧ 2 = 1 then _ else σ.1 18 u 2) = _
                rw [if_neg (by omega), if_neg (by omega)]; exact m4
              · show (if 18 = 18 ∧ u = (w_n W).length ∧ 3 = 2 then _ else if 18 = 18 ∧ u = (w_n W).length ∧ 3 = 1 then _ else σ.1 18 u 3) = _
                rw [if_neg (by omega), if_neg (by omega)]; exact m5
              · show (if 18 = 18 ∧ u = (w_n W).length ∧ 4 = 2 then _ else if 18 = 18 ∧ u = (w_n W).length ∧ 4 = 1 then _ else σ.1 18 u 4) = _
                rw [if_neg (by omega), if_neg (by omega)]; exact m6
            · have hq : u = (w_n W).length := by
                rcases Nat.lt_or_ge (w_n W).length u with w | w
                · rw [List.getElem?_eq_none (by simp; omega)] at he; cases he
                · omega
              subst hq
              rw [List.getElem?_append_right (Nat.le_refl _), Nat.sub_self] at he
              have he := (Option.some.inj he).symm
              subst he
              refine ⟨?_, ?_, ?_, ?_, ?_, ?_⟩
              · show (if 41 = 41 ∧ 0 = 0 ∧ (w_n W).length = (w_n W).length then _ else _) = _
                rw [if_pos ⟨rfl, rfl, rfl⟩]
              · show (if 18 = 18 ∧ (w_n W).length = (w_n W).length ∧ 0 = 0 then _ else _) = _
                rw [if_pos ⟨rfl, rfl, rfl⟩]
              · show (if 18 = 18 ∧ (w_n W).length = (w_n W).length ∧ 1 = 2 then _ else if 18 = 18 ∧ (w_n W).length = (w_n W).length ∧ 1 = 1 then t else _) = Int32.ofNat t.toNatClampNeg
                rw [if_neg (by omega), if_pos ⟨rfl, rfl, rfl⟩, k3]; exact k2
              · show (if 18 = 18 ∧ (w_n W).length = (w_n W).length ∧ 2 = 2 then c else _) = _
                rw [if_pos ⟨rfl, rfl, rfl⟩]
              · show (if 18 = 18 ∧ (w_n W).length = (w_n W).length ∧ 3 = 2 then c else if 18 = 18 ∧ (w_n W).length = (w_n W).length ∧ 3 = 1 then t else σ.1 18 (w_n W).length 3) = 0
                rw [if_neg (by omega), if_neg (by omega)]; exact n4 _ 3 (Nat.le_refl _)
              · show (if 18 = 18 ∧ (w_n W).length = (w_n W).length ∧ 4 = 2 then c else if 18 = 18 ∧ (w_n W).length = (w_n W).length ∧ 4 = 1 then t else σ.1 18 (w_n W).length 4) = 0
                rw [if_neg (by omega), if_neg (by omega)]; exact n4 _ 4 (Nat.le_refl _)
          · rw [hnn] at hu
            show (if 18 = 18 ∧ u = (w_n W).length ∧ k = 2 then _ else if 18 = 18 ∧ u = (w_n W).length ∧ k = 1 then _ else σ.1 18 u k) = _
            rw [if_neg (by omega), if_neg (by omega)]; exact n4 u k (by omega)
          · obtain ⟨z1, z2⟩ := zz
            unfold CWz
            rw [hnn]
            refine ⟨?_, ?_⟩
            · show σ.2.2.2.2.2.2.1 + 1 = _ + (w_v W).length + 2 * (w_r W).length + _
              rw [z1]; omega
            · show σ.2.2.2.2.2.2.2 + 5 = _ + 8 * (w_v W).length + 4 * (w_r W).length + nSpots W + _
              rw [z2]; omega
        · rw [if_neg (by rw [i_lt (by omega) (by omega)]; exact y3), if_neg (fun q => y3 q.2.2.2)]; exact ⟨_, rfl, h⟩
  · rw [if_neg z, if_pos rfl, no, if_neg (fun q => z q.1)]; exact ⟨_, rfl, h⟩
end
