section
/-! THE REFERENCE's YARDS ARE CHANGED -/
variable {X : Nat × (Nat → Int32)} {d : Nat} {s σ σ' : sm_S} {W W' : zW} {v n i k f m j p r : Nat} {c t x u : Int32}
theorem isF_9 (hf : isF f) : f < 9 := by rcases hf with rfl | rfl | rfl | rfl | rfl | rfl <;> decide
theorem MW_setV (h : MW W σ) (hv : v < (w_v W).length) (hf : isF f) : MW (setV W v f x) (sI σ 75 0 (9 * v + f) x) := by
  obtain ⟨⟨a1, a2, a3⟩, b, c, d, e⟩ := h
  have hl : (w_v (setV W v f x)).length = (w_v W).length := List.length_modify _ _ _
  have f9 := isF_9 hf
  refine ⟨⟨by rw [hl]; exact a1, fun u hu => ?_, fun j hj => ?_⟩, b, c, d, e⟩
  · rw [hl] at hu
    obtain ⟨k2, k4⟩ := a2 u hu
    rw [vehAt_set]
    refine ⟨?_, fun g hg => ?_⟩
    · rw [gI, if_neg (by omega), k2]; split <;> rfl
    · have g9 := isF_9 hg
      by_cases q : v = u
      · subst q
        rw [if_pos ⟨rfl, hv⟩]
        show _ = fset (vehAt W v).2 f x g
        unfold fset
        by_cases y : g = f
        · subst y; rw [gI, if_pos ⟨rfl, rfl, rfl⟩, if_pos rfl]
        · rw [gI, if_neg (by omega), if_neg y]; exact k4 g hg
      · rw [if_neg (fun w => q w.1), gI, if_neg (by omega)]; exact k4 g hg
  · rw [hl] at hj
    rw [gI, if_neg (by omega)]; exact a3 j hj
theorem MW_setR (h : MW W σ) (hn : n < (w_r W).length) (hi : i < (rowAt W n).2.length) : MW (setR W n i c) (sI σ 79 0 (frm W n + i) c) := by
  obtain ⟨a, ⟨b1, b2, b3, b4⟩, c', d, e⟩ := h
  have hl : (w_r (setR W n i c)).length = (w_r W).length := List.length_modify _ _ _
  have hfl := frm_le hn
  refine ⟨a, ⟨by rw [hl]; exact b1, by rw [nSpots_set]; exact b2, fun m hm => ?_, fun j hj => ?_⟩, c', d, e⟩
  · rw [hl] at hm
    obtain ⟨k1, k2, k3, k4⟩ := b3 m hm
    rw [rowAt_set, frm_set]
    by_cases q : n = m ∧ m < (w_r W).length
    · rw [if_pos q]
      obtain ⟨rfl, -⟩ := q
      refine ⟨k1, k2, ?_, fun j hj => ?_⟩
      · show _ = Int32.ofNat ((rowAt W n).2.set i c).length; rw [List.length_set]; exact k3
      · have hj2 : j < (rowAt W n).2.length := by
          have h0 : j < ((rowAt W n).2.set i c).length := hj
          rw [List.length_set] at h0; exact h0
        show _ = ((rowAt W n).2.set i c).getD j 0
        by_cases y : j = i
        · subst y
          rw [gI, if_pos ⟨rfl, rfl, rfl⟩, List.getD_eq_getElem?_getD, List.getElem?_set_self hj2]; rfl
        · rw [gI, if_neg (by omega), List.getD_eq_getElem?_getD, List.getElem?_set_ne (fun w => y w.symm), ← List.getD_eq_getElem?_getD]; exact k4 j hj2
    · rw [if_neg q]
      refine ⟨k1, k2, k3, fun j hj => ?_⟩
      rw [gI, if_neg (fun w => q ⟨(frm_ne hm hn hj hi w.2.2).1.symm, hm⟩)]; exact k4 j hj
  · rw [nSpots_set] at hj
    rw [gI, if_neg (by omega)]; exact b4 j hj
theorem MW_newV (h : MW W σ) : MW (wV W (w_v W ++ [((x, fun _ => (0 : Int32)) : zVh)])) (sI (sI σ 74 0 (w_v W).length x) 23 0 24 (Int32.ofNat ((w_v W).length + 1))) := by
  obtain ⟨⟨a1, a2, a3⟩, b, c, d, e⟩ := h
  have hn : (w_v (wV W (w_v W ++ [((x, fun _ => (0 : Int32)) : zVh)]))).length = (w_v W).length + 1 := by show (w_v W ++ [_]).length = _; simp
  refine ⟨⟨by rw [hn, gI, if_pos ⟨rfl, rfl, rfl⟩], fun u hu => ?_, fun j hj => ?_⟩, b, c, d, e⟩
  · rw [hn] at hu
    rw [vehAt_new]
    by_cases q : u < (w_v W).length
    · obtain ⟨k1, k2⟩ := a2 u q
      rw [if_pos q]
      exact ⟨by rw [gI, if_neg (by omega), gI, if_neg (by omega)]; exact k1, fun f hf => by rw [gI, if_neg (by omega), gI, if_neg (by omega)]; exact k2 f hf⟩
    · have q' : u = (w_v W).length := by omega
      rw [if_neg q, if_pos q', q']
      refine ⟨by rw [gI, if_neg (by omega), gI, if_pos ⟨rfl, rfl, rfl⟩], fun f hf => ?_⟩
      have := isF_9 hf
      rw [gI, if_neg (by omega), gI, if_neg (by omega)]
      exact a3 _ (by omega)
  · rw [hn] at hj
    rw [gI, if_neg (by omega), gI, if_neg (by omega)]; exact a3 j (by omega)
theorem MW_newR (h : MW W σ) : MW (wR W (w_r W ++ [((x, List.replicate m (0 : Int32)) : zRw)])) (sI (sI (sI (sI (sI σ 76 0 (w_r W).length x) 77 0 (w_r W).length (Int32.ofNat (nSpots W))) 78 0 (w_r W).length (Int32.ofNat m)) 23 0 26 (Int32.ofNat (nSpots W + m))) 23 0 25 (Int32.ofNat ((w_r W).length + 1))) := by
  obtain ⟨a, ⟨b1, b2, b3, b4⟩, c, d, e⟩ := h
  have hn : (w_r (wR W (w_r W ++ [((x, List.replicate m (0 : Int32)) : zRw)]))).length = (w_r W).length + 1 := by show (w_r W ++ [_]).length = _; simp
  have hsp : nSpots (wR W (w_r W ++ [((x, List.replicate m (0 : Int32)) : zRw)])) = nSpots W + m := by
    show ((w_r W ++ [((x, List.replicate m (0 : Int32)) : zRw)]).map (fun r : zRw => r.2.length)).sum = _
    rw [List.map_append, List.sum_append]
    show nSpots W + ((List.replicate m (0 : Int32)).length + 0) = _
    rw [List.length_replicate]; rfl
  refine ⟨a, ⟨by rw [hn, gI, if_pos ⟨rfl, rfl, rfl⟩], by rw [hsp, gI, if_neg (by omega), gI, if_pos ⟨rfl, rfl, rfl⟩], fun u hu => ?_, fun j hj => ?_⟩, c, d, e⟩
  · rw [hn] at hu
    rw [rowAt_new, frm_new (by omega)]
    by_cases q : u < (w_r W).length
    · obtain ⟨k1, k2, k3, k4⟩ := b3 u q
      rw [if_pos q]
      refine ⟨?_, ?_, ?_, fun i hi => ?_⟩
      · rw [gI, if_neg (by omega), gI, if_neg (by omega), gI, if_neg (by omega), gI, if_neg (by omega), gI, if_neg (by omega)]; exact k1
      · rw [gI, if_neg (by omega), gI, if_neg (by omega), gI, if_neg (by omega), gI, if_neg (by omega), gI, if_neg (by omega)]; exact k2
      · rw [gI, if_neg (by omega), gI, if_neg (by omega), gI, if_neg (by omega), gI, if_neg (by omega), gI, if_neg (by omega)]; exact k3
      · rw [gI, if_neg (by omega), gI, if_neg (by omega), gI, if_neg (by omega), gI, if_neg (by omega), gI, if_neg (by omega)]; exact k4 i hi
    · have q' : u = (w_r W).length := by omega
      rw [if_neg q, if_pos q', q']
      refine ⟨?_, ?_, ?_, fun i hi => ?_⟩
      · rw [gI, if_neg (by omega), gI, if_neg (by omega), gI, if_neg (by omega), gI, if_neg (by omega), gI, if_pos ⟨rfl, rfl, rfl⟩]
      · rw [gI, if_neg (by omega), gI, if_neg (by omega), gI, if_neg (by omega), gI, if_pos ⟨rfl, rfl, rfl⟩, frm_all]
      · rw [gI, if_neg (by omega), gI, if_neg (by omega), gI, if_pos ⟨rfl, rfl, rfl⟩]
        show _ = Int32.ofNat (List.replicate m (0 : Int32)).length
        rw [List.length_replicate]
      · have hi : i < (List.replicate m (0 : Int32)).length := hi
        rw [List.length_replicate] at hi
        rw [gI, if_neg (by omega), gI, if_neg (by omega), gI, if_neg (by omega), gI, if_neg (by omega), gI, if_neg (by omega), frm_all]
        show _ = (List.replicate m (0 : Int32)).getD i 0
        rw [b4 _ (by omega), List.getD_eq_getElem?_getD, List.getElem?_replicate, if_pos hi]; rfl
  · rw [hsp] at hj
    rw [gI, if_neg (by omega), gI, if_neg (by omega), gI, if_neg (by omega), gI, if_neg (by omega), gI, if_neg (by omega)]; exact b4 j (by omega)
theorem MW_track (h : MW W σ) : MW (wTk W (fset (w_t W) k c)) (sI σ 91 0 k (mV 18 c)) := by
  obtain ⟨a, b, t, e, o⟩ := h
  refine ⟨a, b, fun j hj => ⟨(t j hj).1, ?_⟩, e, o⟩
  show (if 91 = 91 ∧ 0 = 0 ∧ j = k then mV 18 c else σ.1 91 0 j) = mV 18 (fset (w_t W) k c j)
  unfold fset
  by_cases q : j = k
  · rw [if_pos ⟨rfl, rfl, q⟩, if_pos q]
  · rw [if_neg (fun w => q w.2.2), if_neg q]; exact (t j hj).2
theorem m_isTrack : sm_callM X true (d + 1) 268 [vI c] σ = rI (if isTr c then 1 else 0) σ := by
  rw [f_X13_isTrack, q_X13_isTrack_0]
  by_cases h : c < 0
  · rw [if_pos h, if_neg (fun q => q.1 h)]
  · rw [if_neg h]
    by_cases k : c < 8
    · rw [if_pos k, if_pos ⟨h, k⟩]
    · rw [if_neg k, if_neg (fun q => k q.2)]
/-- a row on a track -/
theorem m_takes (hW : WW W) (h : MW W σ) (hc : VT W 18 c) (hk : k < 8) : sm_callM X true (d + 6) 269 [vP (23, 0), vI (Int32.ofNat k), vI (mV 18 c)] σ = rI (if c ≠ 0 ∧ mayLay W k c then 1 else 0) σ := by
  have a2 := hW.1.2.1
  obtain ⟨⟨st, s1, s2⟩, -⟩ := hW.2.2.2.1 k hk
  have e := m_isOf (X := X) (d := d) (u := 18 + w_s W k) hW h hc (by decide) ⟨18 + st, by omega, by rw [s2, o18]⟩
  have hm : (c ≠ 0 ∧ cBel (tyOf W c) (18 + w_s W k) = 1) ↔ (c ≠ 0 ∧ mayLay W k c) := by
    constructor
    · intro ⟨y1, y2⟩
      refine ⟨y1, ?_⟩
      obtain ⟨n, q, n1, rfl, n3, n4, -⟩ := VT_r hc (by decide) (by decide) y1
      rw [tyOf_r (by omega), n4, s2, o18, o18, (bel_row q n3 st s1).1] at y2
      unfold mayLay
      rw [ixR_rf (by omega), n4, s2]; exact y2
    · intro ⟨y1, y2⟩
      refine ⟨y1, ?_⟩
      obtain ⟨n, q, n1, rfl, n3, n4, -⟩ := VT_r hc (by decide) (by decide) y1
      rw [tyOf_r (by omega), n4, s2, o18, o18, (bel_row q n3 st s1).1]
      unfold mayLay at y2
      rw [ixR_rf (by omega), n4, s2] at y2; exact y2
  rw [f_X13_takes, q_X13_takes_0, ix_nat (by omega) (by omega), (h.2.2.1 k hk).1, e, bI_r]
  by_cases z : c ≠ 0 ∧ mayLay W k c
  · rw [if_pos (hm.mpr z), if_pos z]; rfl
  · rw [if_neg (fun y => z (hm.mp y)), if_neg z]; rfl
theorem MW_send (h : MW W σ) (hk : k < 8) : MW (wTn W (w_n W ++ [(n, k, c, 0, 0)])) (sI (sI (sI (sI (sI (sI σ 92 0 (w_n W).length (Int32.ofNat (1001 + n))) 93 0 (w_n W).length (Int32.ofNat k)) 94 0 (w_n W).length c) 95 0 (w_n W).length 0) 96 0 (w_n W).length 0) 23 0 60 (Int32.ofNat ((w_n W).length + 1))) := by
  obtain ⟨a, b, tt, ⟨n1, n2⟩, o⟩ := h
  have hnn : (w_n (wTn W (w_n W ++ [(n, k, c, 0, 0)]))).length = (w_n W).length + 1 := by show (w_n W ++ [_]).length = _; simp
  refine ⟨a, b, tt, ⟨by rw [hnn, gI, if_pos ⟨rfl, rfl, rfl⟩], fun u e he => ?_⟩, o⟩
  have he : (w_n W ++ [(n, k, c, (0 : Int32), (0 : Int32))])[u]? = some e := he
  rcases Nat.lt_or_ge u (w_n W).length with q | q
  · rw [List.getElem?_append_left q] at he
    obtain ⟨m1, m2, m3, m4, m5⟩ := n2 u e he
    refine ⟨?_, ?_, ?_, ?_, ?_⟩
    · rw [gI, if_neg (by omega), gI, if_neg (by omega), gI, if_neg (by omega), gI, if_neg (by omega), gI, if_neg (by omega), gI, if_neg (by omega)]; exact m1
    · rw [gI, if_neg (by omega), gI, if_neg (by omega), gI, if_neg (by omega), gI, if_neg (by omega), gI, if_neg (by omega), gI, if_neg (by omega)]; exact m2
    · rw [gI, if_neg (by omega), gI, if_neg (by omega), gI, if_neg (by omega), gI, if_neg (by omega), gI, if_neg (by omega), gI, if_neg (by omega)]; exact m3
    · rw [gI, if_neg (by omega), gI, if_neg (by omega), gI, if_neg (by omega), gI, if_neg (by omega), gI, if_neg (by omega), gI, if_neg (by omega)]; exact m4
    · rw [gI, if_neg (by omega), gI, if_neg (by omega), gI, if_neg (by omega), gI, if_neg (by omega), gI, if_neg (by omega), gI, if_neg (by omega)]; exact m5
  · have hq : u = (w_n W).length := by
      rcases Nat.lt_or_ge (w_n W).length u with w | w
      · rw [List.getElem?_eq_none (by simp; omega)] at he; cases he
      · omega
    subst hq
    rw [List.getElem?_append_right (Nat.le_refl _), Nat.sub_self] at he
    have he := (Option.some.inj he).symm
    subst he
    refine ⟨?_, ?_, ?_, ?_, ?_⟩
    · rw [gI, if_neg (by omega), gI, if_neg (by omega), gI, if_neg (by omega), gI, if_neg (by omega), gI, if_neg (by omega), gI, if_pos ⟨rfl, rfl, rfl⟩]
    · rw [gI, if_neg (by omega), gI, if_neg (by omega), gI, if_neg (by omega), gI, if_neg (by omega), gI, if_pos ⟨rfl, rfl, rfl⟩]
    · rw [gI, if_neg (by omega), gI, if_neg (by omega), gI, if_neg (by omega), gI, if_pos ⟨rfl, rfl, rfl⟩]
    · rw [gI, if_neg (by omega), gI, if_pos ⟨rfl, rfl, rfl⟩]
    · rw [gI, if_neg (by omega), gI, if_neg (by omega), gI, if_pos ⟨rfl, rfl, rfl⟩]
theorem m_send (hW : WW W) (h : MW W σ) : ∃ σ', sm_callM X true (d + 2) 272 [vP (23, 0), vI (Int32.ofNat (1001 + n)), vI t, vI c] σ = rI (sendW W n t c).1 σ' ∧ MW (sendW W n t c).2 σ' := by
  have a10 := hW.1.2.2.2.1
  rw [f_X13_send, q_X13_send_0, m_isTrack, bI_r]
  unfold sendW
  by_cases z : isTr t
  · rw [if_pos z, if_neg (by decide)]
    by_cases y1 : c < 1
    · rw [if_pos y1, if_neg (fun q => q.2.1 y1)]; exact ⟨_, rfl, h⟩
    · rw [if_neg y1]
      by_cases y2 : 1000 < c
      · rw [if_pos y2, if_neg (fun q => q.2.2.1 y2)]; exact ⟨_, rfl, h⟩
      · rw [if_neg y2, h.2.2.2.1.1, show (10 : Int32) = Int32.ofNat 10 from rfl]
        obtain ⟨k, k1, k2, k3⟩ := isTr_n z
        by_cases y3 : (w_n W).length < 10
        · have e0 : ∀ (a b : sm_S → sm_S), True := fun _ _ => trivial
          rw [if_neg (by rw [i_eq (by omega) (by omega)]; omega), if_pos ⟨z, y1, y2, y3⟩, ix_nat (by omega) (by omega)]
          have e1 : (sI σ 92 0 (w_n W).length (Int32.ofNat (1001 + n))).1 23 0 60 = Int32.ofNat (w_n W).length := h.2.2.2.1.1
          rw [e1, ix_nat (by omega) (by omega)]
          have e2 : (sI (sI σ 92 0 (w_n W).length (Int32.ofNat (1001 + n))) 93 0 (w_n W).length t).1 23 0 60 = Int32.ofNat (w_n W).length := h.2.2.2.1.1
          rw [e2, ix_nat (by omega) (by omega)]
          have e3 : (sI (sI (sI σ 92 0 (w_n W).length (Int32.ofNat (1001 + n))) 93 0 (w_n W).length t) 94 0 (w_n W).length c).1 23 0 60 = Int32.ofNat (w_n W).length := h.2.2.2.1.1
          rw [e3, ix_nat (by omega) (by omega)]
          have e4 : (sI (sI (sI (sI σ 92 0 (w_n W).length (Int32.ofNat (1001 + n))) 93 0 (w_n W).length t) 94 0 (w_n W).length c) 95 0 (w_n W).length 0).1 23 0 60 = Int32.ofNat (w_n W).length := h.2.2.2.1.1
          rw [e4, ix_nat (by omega) (by omega)]
          have e5 : (sI (sI (sI (sI (sI σ 92 0 (w_n W).length (Int32.ofNat (1001 + n))) 93 0 (w_n W).length t) 94 0 (w_n W).length c) 95 0 (w_n W).length 0) 96 0 (w_n W).length 0).1 23 0 60 = Int32.ofNat (w_n W).length := h.2.2.2.1.1
          rw [e5, i_s, gI, if_pos ⟨rfl, rfl, rfl⟩, i_pred]
          refine ⟨_, rfl, ?_⟩
          have := MW_send (n := n) (c := c) h k1
          rw [← k2] at this
          rw [k3]; exact this
        · rw [if_pos (by rw [i_eq (by omega) (by omega)]; omega), if_neg (fun q => y3 q.2.2.2)]; exact ⟨_, rfl, h⟩
  · rw [if_neg z, if_pos rfl, if_neg (fun q => z q.1)]; exact ⟨_, rfl, h⟩
theorem cRef_k : ∀ k, k < 36 → cRef (Int32.ofNat k) = 1 := by decide +kernel
theorem mV_cell (hW : WW W) (hc : cOk W k c) : mV t c = c := by
  have a1 := hW.1.1
  rcases hc with rfl | ⟨v, j, h1, rfl, -⟩
  · exact mV_0
  · rw [mV_veh (by omega)]; rfl
/-- a vehicle and a row's places -/
theorem m_isOfV (hW : WW W) (h : MW W σ) (hk : k < 18) (hc : cOk W k c) (hp : p < (w_r W).length) : sm_callM X true (d + 5) 248 [vP (23, 0), vI c, vI (rowAt W p).1] σ = rI (if c ≠ 0 ∧ fitsR W p c then 1 else 0) σ := by
  have a1 := hW.1.1
  obtain ⟨kp, p1, p2, -⟩ := hW.2.2.1 p hp
  have hv : VT W (Int32.ofNat k) c := by
    rcases hc with rfl | ⟨v, j, h1, rfl, h3, h4, h5⟩
    · exact VT_0
    · exact VT_mkv h1 h3 h4 h5
  have e := m_isOf (X := X) (d := d) (u := (rowAt W p).1) hW h hv (cRef_k k (by omega)) ⟨kp, by omega, p2⟩
  rw [mV_cell hW hc] at e
  rw [e]
  by_cases z : c = 0
  · rw [if_neg (fun y => y.1 z), if_neg (fun y => y.1 z)]
  · obtain ⟨v, j, h1, rfl, h3, h4, h5⟩ : ∃ v j, v < (w_v W).length ∧ c = rfV v ∧ j < 13 ∧ (vehAt W v).1 = Int32.ofNat j ∧ cBel (Int32.ofNat j) (Int32.ofNat k) = 1 := by
      rcases hc with y | y
      · exact absurd y z
      · exact y
    rw [tyOf_v (by omega)]
    have hf : fitsR W p (rfV v) ↔ cBel (vehAt W v).1 (rowAt W p).1 = 1 := by
      constructor
      · intro y
        rcases y with y | y
        · exact absurd y z
        · rw [ixV_rf (by omega)] at y; exact y
      · intro y; exact Or.inr (by rw [ixV_rf (by omega)]; exact y)
    by_cases w : cBel (vehAt W v).1 (rowAt W p).1 = 1
    · rw [if_pos ⟨z, w⟩, if_pos ⟨z, hf.mpr w⟩]
    · rw [if_neg (fun y => w y.2), if_neg (fun y => w (hf.mp y.2))]
end
