section
/-! A TICK IN THE CLASS -/
variable {X : Nat × (Nat → Int32)} {d : Nat} {s σ σ' τ : sm_S} {W W' : zW} {B : Nat × Nat} {n i k m j t u : Nat} {c v a b : Int32} {e e' : zTn}
theorem c_speed (hW : WW W) (h : CW W B σ) (he : (w_n W)[t]? = some e) : sm_callM X true (d + 4) 146 [vP (18, t)] σ = rI (spdF W e.1) σ := by
  obtain ⟨hn, -⟩ := hW.2.2.2.2 e (List.mem_of_getElem? he)
  obtain ⟨-, k2, -⟩ := h.2.2.2.1.2.2.1 t e he
  have s2 := c_sum (X := X) (d := d) (f := 2) hW h hn (by decide)
  have s3 := c_sum (X := X) (d := d) (f := 3) hW h hn (by decide)
  have s4 := c_sum (X := X) (d := d) (f := 4) hW h hn (by decide)
  have s2 : sm_callM X true (d + 3) 127 [vP (16, e.1), vI 2] σ = _ := s2
  have s3 : sm_callM X true (d + 3) 127 [vP (16, e.1), vI 3] σ = _ := s3
  have s4 : sm_callM X true (d + 3) 127 [vP (16, e.1), vI 4] σ = _ := s4
  rw [f_X8_reckonSpeed, q_X8_reckonSpeed_0, k2, if_pos rfl, s2, bI_r]
  unfold spdF
  by_cases z : sumF W 2 (rowAt W e.1).2 0 < 1
  · rw [if_pos z, if_pos z]
  · rw [if_neg z, if_neg z, k2, if_pos rfl, s3, bI_r, k2, if_pos rfl, s4, bI_r, if_neg (fun q => z (by rw [q]; decide)), j_min, bI_r, j_max, bI_r]
    rfl
theorem CW_setN (h : CW W B σ) (he : (w_n W)[t]? = some e) (h1 : e'.1 = e.1) (h2 : e'.2.1 = e.2.1) (hI : ∀ u i k, ¬ (u = 18 ∧ i = t ∧ 2 ≤ k ∧ k ≤ 4) → σ'.1 u i k = σ.1 u i k) (h3 : σ'.2 = σ.2) (hm : σ'.1 18 t 2 = e'.2.2.1) (hs : σ'.1 18 t 3 = e'.2.2.2.1) (hg : σ'.1 18 t 4 = e'.2.2.2.2) : CW (setN W t e') B σ' := by
  have ht := (List.getElem?_eq_some_iff.mp he).1
  obtain ⟨-, -, -, ⟨n1, n2, n3, n4⟩, -, z⟩ := id h
  have hl : (w_n (setN W t e')).length = (w_n W).length := List.length_set
  have h' : CWv W σ' ∧ CWr W σ' ∧ CWt W σ' ∧ CWo W σ' := by
    obtain ⟨x1, x2, x3, -, x5, -⟩ := CW_fr (σ' := (fun u i k => if u = 18 then σ.1 u i k else σ'.1 u i k, σ.2)) (σ := σ) (fun u i k hu => by
      show (if u = 18 then σ.1 u i k else σ'.1 u i k) = σ.1 u i k
      by_cases q : u = 18
      · rw [if_pos q]
      · rw [if_neg q]; exact hI u i k (by omega)) (fun _ _ _ _ => rfl) (fun _ _ => rfl) (fun _ _ => rfl) ⟨rfl, rfl⟩ h
    have e2 : σ'.2 = σ.2 := h3
    refine ⟨?_, ?_, ?_, ?_⟩
    · unfold CWv at x1 ⊢; rw [e2]; exact x1
    · unfold CWr at x2 ⊢; rw [e2]; exact x2
    · unfold CWt at x3 ⊢; rw [e2]; exact x3
    · unfold CWo at x5 ⊢; exact x5
  refine ⟨h'.1, h'.2.1, h'.2.2.1, ⟨?_, ?_, fun u q hq => ?_, fun u k hu => ?_⟩, h'.2.2.2, ?_⟩
  · rw [hl, hI _ _ _ (by omega)]; exact n1
  · rw [hl, h3]; exact n2
  · rw [setN_at ht] at hq
    by_cases y : t = u
    · rw [if_pos y] at hq
      cases hq
      obtain ⟨m1, m2, m3, m4, m5, m6⟩ := n3 t e he
      rw [← y]
      exact ⟨by rw [h3]; exact m1, by rw [h3, h1]; exact m2, by rw [hI _ _ _ (by omega), h2]; exact m3, hm, hs, hg⟩
    · rw [if_neg y] at hq
      obtain ⟨m1, m2, m3, m4, m5, m6⟩ := n3 u q hq
      exact ⟨by rw [h3]; exact m1, by rw [h3]; exact m2, by rw [hI _ _ _ (by omega)]; exact m3, by rw [hI _ _ _ (by omega)]; exact m4, by rw [hI _ _ _ (by omega)]; exact m5, by rw [hI _ _ _ (by omega)]; exact m6⟩
  · rw [hl] at hu
    rw [hI _ _ _ (by omega)]; exact n4 u k hu
  · unfold CWz
    rw [hl, h3]; exact z
theorem c_move145 (hW : WW W) (h : CW W B σ) (he : (w_n W)[t]? = some e) : ∃ σ', sm_callM X true (d + 5) 145 [vP (18, t)] σ = rV σ' ∧ CW (setN (burnT W e) t (e.1, e.2.1, (if 0 < e.2.2.1 - spdF W e.1 then e.2.2.1 - spdF W e.1 else 0), spdF W e.1, e.2.2.2.2)) B σ' := by
  obtain ⟨hn, -⟩ := hW.2.2.2.2 e (List.mem_of_getElem? he)
  obtain ⟨-, k2, k3, k4, k5, k6⟩ := h.2.2.2.1.2.2.1 t e he
  have sp := c_speed (X := X) (d := d) hW h he
  have e2 : (sI σ 18 t 3 (spdF W e.1)).1 18 t 2 = e.2.2.1 := by rw [gI, if_neg (by omega)]; exact k4
  have e3 : (sI σ 18 t 3 (spdF W e.1)).1 18 t 3 = spdF W e.1 := by rw [gI, if_pos ⟨rfl, rfl, rfl⟩]
  rw [f_X8_move, q_X8_move_0, sp, bI_r, e2, e3, j_max, bI_r]
  generalize hm : (if 0 < e.2.2.1 - spdF W e.1 then e.2.2.1 - spdF W e.1 else 0) = mi
  have e4 : (sI (sI σ 18 t 3 (spdF W e.1)) 18 t 2 mi).1 18 t 3 = spdF W e.1 := by rw [gI, if_neg (by omega)]; exact e3
  have e5 : (sI (sI σ 18 t 3 (spdF W e.1)) 18 t 2 mi).2.2.1 18 t 0 = (16, e.1) := k2
  have hc : CW (setN W t (e.1, e.2.1, mi, spdF W e.1, e.2.2.2.2)) B (sI (sI σ 18 t 3 (spdF W e.1)) 18 t 2 mi) := by
    refine CW_setN h he rfl rfl (fun u i k hu => ?_) rfl ?_ ?_ ?_
    · rw [gI, if_neg (by omega), gI, if_neg (by omega)]
    · rw [gI, if_pos ⟨rfl, rfl, rfl⟩]
    · rw [gI, if_neg (by omega), gI, if_pos ⟨rfl, rfl, rfl⟩]
    · rw [gI, if_neg (by omega), gI, if_neg (by omega)]; exact k6
  rw [e4, e5]
  unfold burnT
  by_cases z : 0 < spdF W e.1
  · have hW' := WW_setN (e' := (e.1, e.2.1, mi, spdF W e.1, e.2.2.2.2)) hW he rfl rfl
    obtain ⟨σ', f1, f2⟩ := c_burn (X := X) (d := d + 2) (n := e.1) hW' hc hn
    have f1 : sm_callM X true (d + 4) 128 [vP (16, e.1)] (sI (sI σ 18 t 3 (spdF W e.1)) 18 t 2 mi) = rV σ' := f1
    rw [if_pos z, if_pos rfl, f1, bV_r, if_pos z]
    refine ⟨σ', rfl, ?_⟩
    have f2 : CW (burnW (setN W t (e.1, e.2.1, mi, spdF W e.1, e.2.2.2.2)) (rowAt W e.1).2) B σ' := f2
    rw [burnW_setN] at f2
    exact f2
  · rw [if_neg z, if_neg z]
    exact ⟨_, rfl, hc⟩
theorem setN_2 (ht : t < (w_n W).length) : setN (setN W t e) t e' = setN W t e' := by
  unfold setN
  show wTn (wTn W _) (((w_n W).set t e).set t e') = wTn W _
  rw [List.set_set]; rfl
theorem c_move (hW : WW W) (h : CW W B σ) (he : (w_n W)[t]? = some e) (h0 : e.2.2.2.2 = 0) : ∃ σ', sm_callM X true (d + 6) 37 [vP (12, 0), vP (18, t)] σ = rI (Int32.ofNat (moveT W t e).1) σ' ∧ CW (moveT W t e).2 B σ' := by
  obtain ⟨hn, hg8, -⟩ := hW.2.2.2.2 e (List.mem_of_getElem? he)
  have ht := (List.getElem?_eq_some_iff.mp he).1
  obtain ⟨σ1, f1, f2⟩ := c_move145 (X := X) (d := d) hW h he
  obtain ⟨b1, b2, b3, b4, b5, b6⟩ := burnT_ok (e := e) hW hn
  have he' : (w_n (burnT W e))[t]? = some e := by rw [b3]; exact he
  have ht' : t < (w_n (burnT W e)).length := by rw [b3]; exact ht
  rw [f_X2_move, q_X2_move_0, if_pos rfl, f1, bV_r, rq_t]
  generalize hm : (if 0 < e.2.2.1 - spdF W e.1 then e.2.2.1 - spdF W e.1 else 0) = mi at f2
  have hW1 : WW (setN (burnT W e) t (e.1, e.2.1, mi, spdF W e.1, e.2.2.2.2)) := WW_setN b1 he' rfl rfl
  obtain ⟨-, k2, k3, k4, k5, k6⟩ := f2.2.2.2.1.2.2.1 t (e.1, e.2.1, mi, spdF W e.1, e.2.2.2.2) (by rw [setN_at ht', if_pos rfl])
  have k4 : σ1.1 18 t 2 = mi := k4
  have k3 : σ1.1 18 t 1 = Int32.ofNat e.2.1 := k3
  have k2 : σ1.2.2.1 18 t 0 = (16, e.1) := k2
  rw [k4]
  unfold moveT
  by_cases z : 0 < e.2.2.1 - spdF W e.1
  · rw [if_pos z] at hm
    subst hm
    rw [if_pos z, if_pos z]
    exact ⟨σ1, rfl, f2⟩
  · rw [if_neg z] at hm
    subst hm
    rw [if_neg (show ¬ (0 : Int32) < 0 by decide), if_neg z, rq_t, rq_t, k3, k2]
    have hvt : VT (setN (burnT W e) t (e.1, e.2.1, 0, spdF W e.1, e.2.2.2.2)) 18 (rfR e.1) := VT_le (WLe_o (W := burnT W e) rfl rfl) (VT_le b2 (VT_train hW (List.mem_of_getElem? he)))
    have a2 := hW.1.2.1
    have hpR : pR (rfR e.1) = (16, e.1) := by unfold pR; rw [if_neg (rfR_ne (by omega)), ixR_rf (by omega)]
    have el := c_lay (X := X) (d := d + 3) (t := Int32.ofNat e.2.1) hW1 f2 hvt
    rw [hpR] at el
    have el : sm_callM X true (d + 5) 34 [vP (12, 0), vI (Int32.ofNat e.2.1), vP (16, e.1)] σ1 = _ := el
    have htr : isTr (Int32.ofNat e.2.1) := ⟨i_nn (by omega), by rw [show (8 : Int32) = Int32.ofNat 8 from rfl, i_lt (by omega) (by omega)]; exact hg8⟩
    have e8 : (Int32.ofNat e.2.1).toNatClampNeg = e.2.1 := i_tn (by omega)
    have hml : mayLay (setN (burnT W e) t (e.1, e.2.1, 0, spdF W e.1, e.2.2.2.2)) e.2.1 (rfR e.1) ↔ mayLay (burnT W e) e.2.1 (rfR e.1) := Iff.rfl
    rw [el, e8]
    by_cases y : mayLay (burnT W e) e.2.1 (rfR e.1)
    · rw [if_pos (show isTr (Int32.ofNat e.2.1) ∧ (rfR e.1 = 0 ∨ mayLay (setN (burnT W e) t (e.1, e.2.1, 0, spdF W e.1, e.2.2.2.2)) e.2.1 (rfR e.1)) from ⟨htr, Or.inr y⟩), bI_r, if_neg (show ¬ (1 : Int32) = 0 by decide), rq_t, if_pos y]
      refine ⟨_, rfl, ?_⟩
      have g2 := CW_track (k := e.2.1) (c := rfR e.1) f2
      rw [hpR] at g2
      have g3 := CW_setN (t := t) (e := (e.1, e.2.1, 0, spdF W e.1, e.2.2.2.2)) (e' := (e.1, e.2.1, 0, spdF W e.1, 1)) (σ' := sI (sR σ1 40 0 e.2.1 (16, e.1)) 18 t 4 1) g2 (by
        show (w_n (setN (burnT W e) t (e.1, e.2.1, 0, spdF W e.1, e.2.2.2.2)))[t]? = _
        rw [setN_at ht', if_pos rfl]) rfl rfl (fun u i k hu => by rw [gI, if_neg (by omega)]) rfl (by rw [gI, if_neg (by omega)]; exact k4) (by rw [gI, if_neg (by omega)]; exact k5) (by rw [gI, if_pos ⟨rfl, rfl, rfl⟩])
      have eq : setN (wTk (setN (burnT W e) t (e.1, e.2.1, 0, spdF W e.1, e.2.2.2.2)) (fset (w_t (setN (burnT W e) t (e.1, e.2.1, 0, spdF W e.1, e.2.2.2.2))) e.2.1 (rfR e.1))) t (e.1, e.2.1, 0, spdF W e.1, 1) = wTk (setN (burnT W e) t (e.1, e.2.1, 0, spdF W e.1, 1)) (fset (w_t (burnT W e)) e.2.1 (rfR e.1)) := by
        have := setN_2 (W := burnT W e) (t := t) (e := (e.1, e.2.1, 0, spdF W e.1, e.2.2.2.2)) (e' := (e.1, e.2.1, 0, spdF W e.1, 1)) ht'
        exact congrArg (fun w => wTk w (fset (w_t (burnT W e)) e.2.1 (rfR e.1))) this
      rw [eq] at g3
      exact g3
    · rw [if_neg (show ¬ (isTr (Int32.ofNat e.2.1) ∧ (rfR e.1 = 0 ∨ mayLay (setN (burnT W e) t (e.1, e.2.1, 0, spdF W e.1, e.2.2.2.2)) e.2.1 (rfR e.1))) from fun q => q.2.elim (rfR_ne (by omega)) y), bI_r, if_pos rfl, rq_t, if_neg y]
      refine ⟨_, rfl, ?_⟩
      have g3 := CW_setN (t := t) (e := (e.1, e.2.1, 0, spdF W e.1, e.2.2.2.2)) (e' := (e.1, e.2.1, 0, spdF W e.1, 2)) (σ' := sI σ1 18 t 4 2) f2 (by rw [setN_at ht', if_pos rfl]) rfl rfl (fun u i k hu => by rw [gI, if_neg (by omega)]) rfl (by rw [gI, if_neg (by omega)]; exact k4) (by rw [gI, if_neg (by omega)]; exact k5) (by rw [gI, if_pos ⟨rfl, rfl, rfl⟩])
      rw [setN_2 ht'] at g3
      exact g3
theorem c_ticT {n x3 : Int32} : ∀ (m t : Nat) (W : zW) (σ : sm_S) (x : Int32) (d5 : sm_V), WW W → CW W B σ → t + m = (w_n W).length → ∃ σ' d4', sm_go (sm_ZZ X) sm_PP true (sm_callM X true (d + 6)) 36 22 [vP (12, 0), vI n, vI x, vI x3, vI (Int32.ofNat t), d5] [] σ = sm_go (sm_ZZ X) sm_PP true (sm_callM X true (d + 6)) 36 4 [vP (12, 0), vI n, vI (x + Int32.ofNat (ticT m t W).1), vI (x3 + 1), d4', vU] [] σ' ∧ CW (ticT m t W).2 B σ'
  | 0, t, W, σ, x, d5, hW, h, hm => by
    have a10 := hW.1.2.2.2.1
    rw [q_X2_passTime_22, h.2.2.2.1.1, if_neg (by rw [i_lt (by omega) (by omega)]; omega)]
    refine ⟨σ, vI (Int32.ofNat t), ?_, h⟩
    show _ = sm_go (sm_ZZ X) sm_PP true (sm_callM X true (d + 6)) 36 4 [vP (12, 0), vI n, vI (x + 0), vI (x3 + 1), _, vU] [] σ
    rw [Int32.add_zero]
  | m + 1, t, W, σ, x, d5, hW, h, hm => by
    have a10 := hW.1.2.2.2.1
    have ht : t < (w_n W).length := by omega
    obtain ⟨e, he⟩ : ∃ e, (w_n W)[t]? = some e := ⟨_, List.getElem?_eq_getElem ht⟩
    obtain ⟨k1, k2, k3, k4, k5, k6⟩ := h.2.2.2.1.2.2.1 t e he
    rw [q_X2_passTime_22, h.2.2.2.1.1, if_pos (by rw [i_lt (by omega) (by omega)]; omega), ix_nat (by omega) (by omega), k1, if_neg (show ¬ ((18, t) : Nat × Nat).1 = 0 by simp), rq_t, k6, ticT, he]
    dsimp only
    by_cases z : e.2.2.2.2 = 0
    · obtain ⟨σ1, f1, f2⟩ := c_move (X := X) (d := d) hW h he z
      obtain ⟨w1, w2, w3⟩ := moveT_ok (t := t) hW he
      rw [if_pos z, f1, bI_r, if_pos z]
      have go : ∀ y : Int32, y = x + Int32.ofNat (moveT W t e).1 → ∃ σ' d4', sm_go (sm_ZZ X) sm_PP true (sm_callM X true (d + 6)) 36 22 [vP (12, 0), vI n, vI y, vI x3, vI (Int32.ofNat (t + 1)), vP (18, t)] [] σ1 = sm_go (sm_ZZ X) sm_PP true (sm_callM X true (d + 6)) 36 4 [vP (12, 0), vI n, vI (x + Int32.ofNat ((moveT W t e).1 + (ticT m (t + 1) (moveT W t e).2).1)), vI (x3 + 1), d4', vU] [] σ' ∧ CW (ticT m (t + 1) (moveT W t e).2).2 B σ' := fun y hy => by
        obtain ⟨σ', d4', g1, g2⟩ := c_ticT (n := n) (x3 := x3) m (t + 1) (moveT W t e).2 σ1 y (vP (18, t)) w1 f2 (by rw [w2]; omega)
        refine ⟨σ', d4', ?_, g2⟩
        rw [g1, hy, Int32.add_assoc, ← Int32.ofNat_add]
      have h01 : (moveT W t e).1 = 0 ∨ (moveT W t e).1 = 1 := by omega
      rcases h01 with q | q
      · rw [q] at go
        rw [q, if_pos (show Int32.ofNat 0 = 0 from rfl), i_s]
        exact go _ rfl
      · rw [q] at go
        rw [q, if_neg (show ¬ Int32.ofNat 1 = 0 by decide), i_s]
        exact go _ rfl
    · rw [if_neg z, if_neg z, i_s]
      exact c_ticT m (t + 1) W σ x _ hW h (by omega)
theorem c_tickN {n : Nat} (hn : n ≤ 200) : ∀ (m i : Nat) (W : zW) (σ : sm_S) (x : Int32) (d4 d5 : sm_V), WW W → CW W B σ → i + m = n → ∃ σ', sm_go (sm_ZZ X) sm_PP true (sm_callM X true (d + 6)) 36 4 [vP (12, 0), vI (Int32.ofNat n), vI x, vI (Int32.ofNat i), d4, d5] [] σ = rI (x + Int32.ofNat (tickN m W).1) σ' ∧ CW (tickN m W).2 B σ'
  | 0, i, W, σ, x, d4, d5, hW, h, hm => by
    rw [q_X2_passTime_4, if_neg (by rw [i_lt (by omega) (by omega)]; omega)]
    exact ⟨σ, by show rI x σ = rI (x + 0) σ; rw [Int32.add_zero], h⟩
  | m + 1, i, W, σ, x, d4, d5, hW, h, hm => by
    have hc : CW (wC W (w_c W + 1)) B (sI σ 12 0 4 (w_c W + 1)) := by
      obtain ⟨a, b, t, e, ⟨o1, o2, o3, o4⟩, z⟩ := h
      exact ⟨a, b, t, e, ⟨by rw [gI, if_pos ⟨rfl, rfl, rfl⟩]; rfl, o2, o3, o4⟩, z⟩
    rw [q_X2_passTime_4, if_pos (by rw [i_lt (by omega) (by omega)]; omega), h.2.2.2.2.1.1]
    obtain ⟨σ1, d4', f1, f2⟩ := c_ticT (X := X) (d := d) (n := Int32.ofNat n) (x3 := Int32.ofNat i) (w_n W).length 0 (wC W (w_c W + 1)) _ x vU (WW_c hW) hc (Nat.zero_add _)
    have f1 : sm_go (sm_ZZ X) sm_PP true (sm_callM X true (d + 6)) 36 22 [vP (12, 0), vI (Int32.ofNat n), vI x, vI (Int32.ofNat i), vI 0, vU] [] (sI σ 12 0 4 (w_c W + 1)) = _ := f1
    obtain ⟨σ', g1, g2⟩ := c_tickN hn m (i + 1) (ticT (w_n W).length 0 (wC W (w_c W + 1))).2 σ1 (x + Int32.ofNat (ticT (w_n W).length 0 (wC W (w_c W + 1))).1) d4' vU (ticT_ok (w_n W).length 0 (wC W (w_c W + 1)) (WW_c hW) (Nat.zero_add _)).1 f2 (by omega)
    refine ⟨σ', ?_, g2⟩
    rw [f1, i_s, g1, Int32.add_assoc, ← Int32.ofNat_add]; rfl
theorem c_tick (hW : WW W) (h : CW W B σ) (hn : n ≤ 200) : ∃ σ', sm_callM X true (d + 8) 174 [vP (21, 0), vI (Int32.ofNat n)] σ = rI (Int32.ofNat (tickN n W).1) σ' ∧ CW (tickN n W).2 B σ' := by
  obtain ⟨σ', g1, g2⟩ := c_tickN (X := X) (d := d) (n := n) hn n 0 W σ 0 vU vU hW h (Nat.zero_add _)
  have g1 : sm_go (sm_ZZ X) sm_PP true (sm_callM X true (d + 6)) 36 4 [vP (12, 0), vI (Int32.ofNat n), vI 0, vI 0, vU, vU] [] σ = rI (0 + Int32.ofNat (tickN n W).1) σ' := g1
  rw [f_X11_tick, q_X11_tick_0, if_neg (i_nn (by omega)), show (200 : Int32) = Int32.ofNat 200 from rfl, if_neg (by rw [i_lt (by omega) (by omega)]; omega), f_X2_passTime, q_X2_passTime_0, g1, bI_r, Int32.zero_add]
  exact ⟨σ', rfl, g2⟩
end
