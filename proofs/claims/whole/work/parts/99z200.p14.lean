section
/-! STATE, TICK, LOAD, RUN -/
variable {X : Nat × (Nat → Int32)} {d k : Nat} {As : List sm_V} {o : sm_O} {s t σ σ' τ : sm_S} {B : Nat × Nat} {ci cj mi mj : Nat} {a b c v w y : Int32} {p : zPu} {W' : zW} {o' : Option (Nat → Int32)}
theorem ry_t {u : Nat} (h : u = 10 ∨ u = 13 ∨ u = 14 ∨ u = 15 ∨ u = 17 ∨ u = 21 ∨ (30 ≤ u ∧ u ≤ 38) ∨ (42 ≤ u ∧ u ≤ 50) ∨ (52 ≤ u ∧ u ≤ 55)) (q j : Nat) : ry_A q u j = false := by
  unfold ry_A
  rcases h with rfl | rfl | rfl | rfl | rfl | rfl | h | h | h
  · rfl
  · rfl
  · rfl
  · rfl
  · rfl
  · rfl
  · rw [Nat.ble_eq.mpr h.1, Nat.ble_eq.mpr h.2]; simp
  · rw [Nat.ble_eq.mpr h.1, Nat.ble_eq.mpr h.2]; simp
  · rw [Nat.ble_eq.mpr h.1, Nat.ble_eq.mpr h.2]; simp
theorem rc_t {u : Nat} (h : u = 10 ∨ u = 14 ∨ u = 15 ∨ u = 17 ∨ u = 21 ∨ (30 ≤ u ∧ u ≤ 38) ∨ (47 ≤ u ∧ u ≤ 50) ∨ (52 ≤ u ∧ u ≤ 55)) (q j : Nat) : rc_A q u j = false := by
  unfold rc_A
  rcases h with rfl | rfl | rfl | rfl | rfl | h | h | h
  · rfl
  · rfl
  · rfl
  · rfl
  · rfl
  · rw [Nat.ble_eq.mpr h.1, Nat.ble_eq.mpr h.2]; simp
  · rw [Nat.ble_eq.mpr h.1, Nat.ble_eq.mpr h.2]; simp
  · rw [Nat.ble_eq.mpr h.1, Nat.ble_eq.mpr h.2]; simp
theorem ble_f {m n : Nat} (h : ¬ m ≤ n) : Nat.ble m n = false := by
  cases e : Nat.ble m n with
  | false => rfl
  | true => exact absurd (Nat.ble_eq.mp e) h
theorem r74 {u : Nat} (h : ¬ (74 ≤ u ∧ u ≤ 96)) : (Nat.ble 74 u && Nat.ble u 96) = false := by
  by_cases z : 74 ≤ u
  · rw [ble_f (m := u) (n := 96) (by omega)]; exact Bool.and_false _
  · rw [ble_f z]; rfl
theorem rm_t {u j : Nat} (h : u = 22 ∨ (59 ≤ u ∧ u ≤ 67) ∨ (u = 23 ∧ j < 24)) : rm_A 0 u (sm_nk u j) = false := by
  show ((u == 23 && Nat.ble 24 (sm_nk u j)) || (Nat.ble 74 u && Nat.ble u 96)) = false
  rw [r74 (by omega)]
  rcases h with z | z | ⟨z, z1⟩
  · rw [z]; rfl
  · rw [show (u == 23) = false by simp; omega]; rfl
  · rw [z, show sm_nk 23 j = j from rfl, ble_f (show ¬ 24 ≤ j by omega)]; rfl
theorem rn_t {u j : Nat} (h : u = 22 ∨ (59 ≤ u ∧ u ≤ 67) ∨ (u = 23 ∧ j < 60)) : rn_A 0 u (sm_nk u j) = false := by
  show ((u == 23 && (sm_nk u j == 60 || sm_nk u j == 61)) || (Nat.ble 74 u && Nat.ble u 96)) = false
  rw [r74 (by omega)]
  rcases h with z | z | ⟨z, z1⟩
  · rw [z]; rfl
  · rw [show (u == 23) = false by simp; omega]; rfl
  · rw [z, show sm_nk 23 j = j from rfl, show (j == 60) = false by simp; omega, show (j == 61) = false by simp; omega]; rfl
theorem CI8_y (hk : ry_M k = true) (e : sm_callM X true d k As σ = some (o, t)) (h : CI8 p B ci cj σ) (hW : CW W' B t) : CI8 (p.1, p.2.1, p.2.2.1, W', p.2.2.2.2) B ci cj t := by
  obtain ⟨g1, g2, g3, g4, g5, g6, g7⟩ := h
  obtain ⟨f1, f2, f3, -, -, -, -⟩ := ry_fr hk e
  exact ⟨CRd_s (σ := σ) (fun u c j hu => f1 _ _ _ (ry_t (by omega) _ _)) (f3 _ _ _ (ry_t (by omega) _ _)) (f3 _ _ _ (ry_t (by omega) _ _)) g1, hW, CTo_s (σ := σ) (f1 _ _ _ (ry_t (by omega) _ _)) (fun k => f1 _ _ _ (ry_t (by omega) _ _)) g3, (f1 _ _ _ (ry_t (by omega) _ _)).trans g4, fun j => (f1 _ _ _ (ry_t (by omega) _ _)).trans (g5 j), (f1 _ _ _ (ry_t (by omega) _ _)).trans g6, (f1 _ _ _ (ry_t (by omega) _ _)).trans g7⟩
theorem CI8_r (hk : rc_M k = true) (e : sm_callM X true d k As σ = some (o, t)) (h : CI8 p B ci cj σ) (hW : CW W' B t) (hd : CTo o' t) : CI8 (p.1, p.2.1, p.2.2.1, W', o', p.2.2.2.2.2) B ci cj t := by
  obtain ⟨g1, g2, g3, g4, g5, g6, g7⟩ := h
  obtain ⟨f1, f2, f3, -, -, -, -⟩ := rc_fr hk e
  exact ⟨CRd_s (σ := σ) (fun u c j hu => f1 _ _ _ (rc_t (by omega) _ _)) (f3 _ _ _ (rc_t (by omega) _ _)) (f3 _ _ _ (rc_t (by omega) _ _)) g1, hW, hd, (f1 _ _ _ (rc_t (by omega) _ _)).trans g4, fun j => (f1 _ _ _ (rc_t (by omega) _ _)).trans (g5 j), (f1 _ _ _ (rc_t (by omega) _ _)).trans g6, (f1 _ _ _ (rc_t (by omega) _ _)).trans g7⟩
theorem MI8_y (hk : rn_M k = true) (e : sm_callM X true d k As σ = some (o, t)) (h : MI8 p mi mj σ) (hW : MW W' t) : MI8 (p.1, p.2.1, p.2.2.1, W', p.2.2.2.2) mi mj t := by
  obtain ⟨g1, g2, g3, g4, g5, g6, g7⟩ := h
  obtain ⟨f1, f2, f3, -, -, -, -⟩ := rn_fr hk e
  exact ⟨MRd_s (σ := σ) (fun u c j hu => f1 _ _ _ (rn_t (by omega))) (f3 _ _ _ rfl) (f3 _ _ _ rfl) g1, hW, MTo_s (σ := σ) (fun k hk => f1 _ _ _ (rn_t (by omega))) g3, (f1 _ _ _ (rn_t (by omega))).trans g4, fun j => (f1 _ _ _ (rn_t (by omega))).trans (g5 j), (f1 _ _ _ (rn_t (by omega))).trans g6, (f1 _ _ _ (rn_t (by omega))).trans g7⟩
theorem MI8_r (hk : rm_M k = true) (e : sm_callM X true d k As σ = some (o, t)) (h : MI8 p mi mj σ) (hW : MW W' t) (hd : MTo o' t) : MI8 (p.1, p.2.1, p.2.2.1, W', o', p.2.2.2.2.2) mi mj t := by
  obtain ⟨g1, g2, g3, g4, g5, g6, g7⟩ := h
  obtain ⟨f1, f2, f3, -, -, -, -⟩ := rm_fr hk e
  exact ⟨MRd_s (σ := σ) (fun u c j hu => f1 _ _ _ (rm_t (by omega))) (f3 _ _ _ rfl) (f3 _ _ _ rfl) g1, hW, hd, (f1 _ _ _ (rm_t (by omega))).trans g4, fun j => (f1 _ _ _ (rm_t (by omega))).trans (g5 j), (f1 _ _ _ (rm_t (by omega))).trans g6, (f1 _ _ _ (rm_t (by omega))).trans g7⟩
theorem Q_state : Q8r X 173 286 [vI a, vI w] := fun p B ci cj mi mj σ τ h1 h2 h3 => by
  have e1 := c_state (X := X) (d := 496) (a := a) (w := w) h1.1 h2.2.1
  have e2 := m_state (X := X) (d := 492) (a := a) (w := w) h1.1 h3.2.1
  by_cases z : isTr a ∧ ¬ w < 0 ∧ w < 18
  · rw [if_pos z] at e1
    rw [if_pos z] at e2
    obtain ⟨σ', e1, w1⟩ := e1
    obtain ⟨τ', e2, w2⟩ := e2
    have hw : ∃ s, s < 18 ∧ w = Int32.ofNat s := i32_nat (n := 18) (by decide) z.2.1 z.2.2
    exact ⟨1, (p.1, p.2.1, p.2.2.1, stW p.2.2.2.1 a.toNatClampNeg w, p.2.2.2.2), ci, cj, mi, mj, ⟨stW_ok h1.1 hw, h1.2.1, h1.2.2.1, h1.2.2.2⟩, ⟨σ', e1, CI8_y (by decide) e1 h2 w1⟩, τ', e2, MI8_y (by decide) e2 h3 w2⟩
  · rw [if_neg z] at e1
    rw [if_neg z] at e2
    exact ⟨0, p, ci, cj, mi, mj, h1, ⟨σ, e1, h2⟩, τ, e2, h3⟩
theorem Q_tick : Q8r X 174 287 [vI a] := fun p B ci cj mi mj σ τ h1 h2 h3 => by
  by_cases z : a < 0
  · refine ⟨-1, p, ci, cj, mi, mj, h1, ⟨σ, ?_, h2⟩, τ, ?_, h3⟩
    · rw [f_X11_tick, q_X11_tick_0, if_pos z]
    · rw [f_X13_tick, q_X13_tick_0, if_pos z]
  · by_cases z2 : 200 < a
    · refine ⟨-1, p, ci, cj, mi, mj, h1, ⟨σ, ?_, h2⟩, τ, ?_, h3⟩
      · rw [f_X11_tick, q_X11_tick_0, if_neg z, if_pos z2]
      · rw [f_X13_tick, q_X13_tick_0, if_neg z, if_pos z2]
    · obtain ⟨n, hn, rfl⟩ : ∃ n, n < 201 ∧ a = Int32.ofNat n := i32_nat (n := 201) (by decide) z (by
        rw [Int32.lt_iff_toInt_lt] at z2 ⊢
        have e1 : (200 : Int32).toInt = 200 := rfl
        have e2 : (Int32.ofNat 201).toInt = 201 := rfl
        omega)
      obtain ⟨σ', e1, w1⟩ := c_tick (X := X) (d := 492) (n := n) h1.1 h2.2.1 (by omega)
      obtain ⟨τ', e2, w2⟩ := m_tick (X := X) (d := 491) (n := n) h1.1 h3.2.1 (by omega)
      exact ⟨_, (p.1, p.2.1, p.2.2.1, (tickN n p.2.2.2.1).2, p.2.2.2.2), ci, cj, mi, mj, ⟨tickN_ok n _ h1.1, h1.2.1, h1.2.2.1, h1.2.2.2⟩, ⟨σ', e1, CI8_y (by decide) e1 h2 w1⟩, τ', e2, MI8_y (by decide) e2 h3 w2⟩
end
