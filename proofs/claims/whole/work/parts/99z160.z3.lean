section
/-! THE CLASS's YARDS ARE CHANGED: burn, new vehicles, rows, trains; tracks -/
variable {X : Nat × (Nat → Int32)} {d : Nat} {s σ σ' : sm_S} {W W' : zW} {B : Nat × Nat} {v n i k f : Nat} {c t x : Int32}
def burn1 (W : zW) (c : Int32) : zW := if c = 0 then W else if 0 < (vehAt W (ixV c)).2 8 then setV W (ixV c) 8 ((vehAt W (ixV c)).2 8 - 1) else W
def burnW (W : zW) : List Int32 → zW
  | [] => W
  | c :: r => burnW (burn1 W c) r
theorem burn1_r (n : Nat) : rowAt (burn1 W c) n = rowAt W n := by
  unfold burn1; split
  · rfl
  · split <;> rfl
theorem burn1_l : (w_r (burn1 W c)) = w_r W := by
  unfold burn1; split
  · rfl
  · split <;> rfl
theorem burn1_v : (w_v (burn1 W c)).length = (w_v W).length := by
  unfold burn1; split
  · rfl
  · split
    · exact List.length_modify _ _ _
    · rfl
theorem WW_burn1 (hW : WW W) (hc : cOk W k c) : WW (burn1 W c) := by
  unfold burn1
  split
  · exact hW
  · split
    · rename_i h0 hp
      have a1 := hW.1.1
      rcases hc with z | ⟨v, j, h1, rfl, -⟩
      · exact absurd z h0
      · rw [ixV_rf (by omega)] at hp ⊢
        refine WW_setV hW (fun z => absurd z (by decide)) (fun _ => ?_)
        obtain ⟨⟨k, k1, k2, k3⟩, -⟩ := hW.2.1 v h1
        rw [k2]
        rcases cBel_01 (Int32.ofNat k) 17 with z | z
        · rw [k3 (by rw [z]; decide)] at hp; exact absurd hp (by decide)
        · exact z
    · exact hW
theorem WLe_burn1 : WLe W (burn1 W c) := by
  unfold burn1
  split
  · exact WLe.refl W
  · split
    · exact WLe_setV
    · exact WLe.refl W
theorem c_burn1 (hW : WW W) (h : CW W B σ) (hv : v < (w_v W).length) : ∃ σ', sm_callM X true (d + 1) 152 [vP (19, v)] σ = rV σ' ∧ CW (burn1 W (rfV v)) B σ' := by
  have a1 := hW.1.1
  obtain ⟨-, -, -, -, -, -, h7⟩ := cv_f h hv
  rw [f_X9_burn, q_X9_burn_0, h7]
  unfold burn1
  rw [if_neg (rfV_pos (by omega)).2.1, ixV_rf (by omega)]
  by_cases z : 0 < (vehAt W v).2 8
  · rw [if_pos z, if_pos z]
    exact ⟨_, rfl, CW_setV (f := 8) h hv (by decide)⟩
  · rw [if_neg z, if_neg z]
    exact ⟨_, rfl, h⟩
theorem c_burn_go : ∀ (m i : Nat) (d2 : sm_V) (W : zW) (σ : sm_S), WW W → CW W B σ → n < (w_r W).length → i + m = (rowAt W n).2.length → ∃ σ', sm_go (sm_ZZ X) sm_PP true (sm_callM X true (d + 1)) 128 2 [vP (16, n), vI (Int32.ofNat i), d2] [] σ = rV σ' ∧ CW (burnW W ((rowAt W n).2.drop i)) B σ'
  | 0, i, d2, W, σ, hW, h, hn, hi => by
    obtain ⟨k, -, -, hl, -⟩ := hW.2.2.1 n hn
    rw [q_X6_burn_2, (h.2.1.2.2.2.2.1 n hn).2.2.2.1, if_neg (by rw [i_lt (by omega) (by omega)]; omega), List.drop_of_length_le (by omega)]
    exact ⟨_, rfl, h⟩
  | m + 1, i, d2, W, σ, hW, h, hn, hi => by
    obtain ⟨k, -, -, hl, hcs⟩ := hW.2.2.1 n hn
    obtain ⟨-, -, -, k4, k5, k6, k7⟩ := h.2.1.2.2.2.2.1 n hn
    rw [q_X6_burn_2, k4, if_pos (by rw [i_lt (by omega) (by omega)]; omega), k5, rq_t, ix_nat (by rw [k6]; omega) (by rw [k6]; omega), k7 i (by omega), getD_drop (by omega), i_s]
    by_cases z : (rowAt W n).2.getD i 0 = 0
    · rw [if_pos (pV_0.mpr z)]
      obtain ⟨σ', e1, e2⟩ := c_burn_go m (i + 1) (vP (pV ((rowAt W n).2.getD i 0))) W σ hW h hn (by omega)
      refine ⟨σ', e1, ?_⟩
      show CW (burnW (burn1 W _) _) B σ'
      unfold burn1
      rw [if_pos z]; exact e2
    · obtain ⟨v, v1, v2, v3, v4⟩ := cell_ok hW hn (by omega) z
      have hc := hcs _ (getD_mem z)
      rw [if_neg (fun q => z (pV_0.mp q)), v4, if_pos rfl]
      obtain ⟨σ1, e1, h1⟩ := c_burn1 (X := X) (d := d) hW h v1
      rw [e1, bV_r]
      rw [v2] at hc ⊢
      obtain ⟨σ', f1, f2⟩ := c_burn_go m (i + 1) (vP (19, v)) (burn1 W (rfV v)) σ1 (WW_burn1 hW hc) h1 (by rw [burn1_l]; exact hn) (by rw [burn1_r]; omega)
      refine ⟨σ', f1, ?_⟩
      rw [burn1_r] at f2
      exact f2
theorem c_burn (hW : WW W) (h : CW W B σ) (hn : n < (w_r W).length) : ∃ σ', sm_callM X true (d + 2) 128 [vP (16, n)] σ = rV σ' ∧ CW (burnW W (rowAt W n).2) B σ' := by
  rw [f_X6_burn, q_X6_burn_0]
  exact c_burn_go _ 0 _ W σ hW h hn (Nat.zero_add _)
theorem c_room : sm_callM X true (d + 1) 157 [vP (20, 0)] σ = rI (if σ.1 20 0 2 < 300 then 1 else 0) σ := by
  rw [f_X10_hasRoomForVehicle, q_X10_hasRoomForVehicle_0]; split <;> rfl
theorem c_roomV (hW : WW W) (h : CW W B σ) : sm_callM X true (d + 1) 157 [vP (20, 0)] σ = rI (if (w_v W).length < 300 then 1 else 0) σ := by
  have a1 := hW.1.1
  rw [c_room, h.1.1, show (300 : Int32) = Int32.ofNat 300 from rfl]
  by_cases z : (w_v W).length < 300
  · rw [if_pos z, if_pos (by rw [i_lt (by omega) (by omega)]; exact z)]
  · rw [if_neg z, if_neg (by rw [i_lt (by omega) (by omega)]; exact z)]
theorem c_makeV (hW : WW W) (h : CW W B σ) (hl : (w_v W).length < 300) : ∃ σ', sm_callM X true (d + 2) 159 [vP (20, 0), vI x] σ = rI (rfV (w_v W).length) σ' ∧ CW (wV W (w_v W ++ [((x, fun _ => (0 : Int32)) : zVh)])) B σ' := by
  obtain ⟨⟨a1, a2, a3, a4⟩, b, c, e, o, z⟩ := h
  rw [f_X10_makeVehicle, q_X10_makeVehicle_0, c_roomV hW ⟨⟨a1, a2, a3, a4⟩, b, c, e, o, z⟩, if_pos hl, bI_r, if_neg (by decide), a2]
  rw [show (sN σ 19 8 0).1 20 0 2 = σ.1 20 0 2 from rfl, a1, f_X9_init, q_X9_init_0, bV_r, ix_nat (by omega) (by omega)]
  have e2 : (sR (sI (sI (sN σ 19 8 0) 19 (w_v W).length 0 x) 19 (w_v W).length 1 (Int32.ofNat (w_v W).length)) 56 0 (w_v W).length (19, (w_v W).length)).1 20 0 2 = Int32.ofNat (w_v W).length := a1
  rw [e2, i_s]
  have hn : (w_v (wV W (w_v W ++ [((x, fun _ => (0 : Int32)) : zVh)]))).length = (w_v W).length + 1 := by show (w_v W ++ [_]).length = _; simp
  rw [gI, if_pos ⟨rfl, rfl, rfl⟩]
  refine ⟨_, rfl, ⟨?_, ?_, fun v hv => ?_, fun v k hv => ?_⟩, b, c, e, o, ?_⟩
  · rw [hn, gI, if_pos ⟨rfl, rfl, rfl⟩]
  · rw [hn]
    show σ.2.2.2.2.1 19 + 1 = _
    rw [a2]
  · rw [hn] at hv
    rw [vehAt_new]
    by_cases q : v < (w_v W).length
    · obtain ⟨k1, k2, k3, k4⟩ := a3 v q
      rw [if_pos q]
      refine ⟨?_, ?_, ?_, fun f hf => ?_⟩
      · show (if (56 : Nat) = 56 ∧ (0 : Nat) = 0 ∧ v = (w_v W).length then _ else σ.2.2.1 56 0 v) = _
        rw [if_neg (by omega)]; exact k1
      · rw [gI, if_neg (by omega), gRI, gI, if_neg (by omega), gI, if_neg (by omega)]; exact k2
      · rw [gI, if_neg (by omega), gRI, gI, if_neg (by omega), gI, if_neg (by omega)]; exact k3
      · rw [gI, if_neg (by omega), gRI, gI, if_neg (by omega), gI, if_neg (by omega)]; exact k4 f hf
    · have q' : v = (w_v W).length := by omega
      rw [if_neg q, if_pos q']
      subst q'
      refine ⟨?_, ?_, ?_, fun f hf => ?_⟩
      · show (if (56 : Nat) = 56 ∧ (0 : Nat) = 0 ∧ (w_v W).length = (w_v W).length then _ else _) = _
        rw [if_pos ⟨rfl, rfl, rfl⟩]
      · rw [gI, if_neg (by omega), gRI, gI, if_neg (by omega), gI, if_pos ⟨rfl, rfl, rfl⟩]
      · rw [gI, if_neg (by omega), gRI, gI, if_pos ⟨rfl, rfl, rfl⟩]
      · have h2 := fSl_2 hf
        rw [gI, if_neg (by omega), gRI, gI, if_neg (by omega), gI, if_neg (by omega)]
        exact a4 _ _ (Nat.le_refl _)
  · rw [hn] at hv
    rw [gI, if_neg (by omega), gRI, gI, if_neg (by omega), gI, if_neg (by omega)]
    exact a4 v k (by omega)
  · obtain ⟨z1, z2⟩ := z
    unfold CWz
    rw [hn]
    refine ⟨?_, ?_⟩
    · show σ.2.2.2.2.2.2.1 + 1 = _ + _ + 2 * (w_r W).length + (w_n W).length
      rw [z1]; omega
    · show σ.2.2.2.2.2.2.2 + 8 = _ + _ + 4 * (w_r W).length + nSpots W + 5 * (w_n W).length
      rw [z2]; omega
/-- may a new row be made -/
theorem room_i (hW : WW W) (h1 : ¬ 40 < c) : (2000 < Int32.ofNat (nSpots W) + c) ↔ 2000 < (nSpots W : Int) + c.toInt := by
  have a3 := hW.1.2.2.1
  have h1 : ¬ (40 : Int) < c.toInt := fun q => h1 (Int32.lt_iff_toInt_lt.mpr q)
  have h2 := Int32.le_toInt c
  rw [Int32.lt_iff_toInt_lt, Int32.toInt_add, Int32.toInt_ofNat_of_lt (by omega), show (2000 : Int32).toInt = 2000 from rfl, Int.bmod_def]
  omega
theorem c_roomR (hW : WW W) (h : CW W B σ) : sm_callM X true (d + 1) 158 [vP (20, 0), vI c] σ = rI (if roomR W c then 1 else 0) σ := by
  have a2 := hW.1.2.1
  rw [f_X10_hasRoomForRow, q_X10_hasRoomForRow_0, h.2.1.1, h.2.1.2.1, show (200 : Int32) = Int32.ofNat 200 from rfl]
  by_cases z : (w_r W).length < 200
  · rw [if_pos (by rw [i_lt (by omega) (by omega)]; exact z)]
    by_cases y : 40 < c
    · rw [if_pos y, if_neg (fun q => q.2.1 y)]
    · rw [if_neg y]
      by_cases w : 2000 < Int32.ofNat (nSpots W) + c
      · rw [if_pos w, if_neg (fun q => q.2.2 ((room_i hW y).mp w))]
      · rw [if_neg w, if_pos ⟨z, y, fun q => w ((room_i hW y).mpr q)⟩]
  · rw [if_neg (by rw [i_lt (by omega) (by omega)]; exact z), if_neg (fun q => z q.1)]
end
