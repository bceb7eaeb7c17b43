section
/-! LOAD -/
variable {X : Nat × (Nat → Int32)} {d k : Nat} {As : List sm_V} {o : sm_O} {s t σ σ' τ : sm_S} {B : Nat × Nat} {ci cj mi mj : Nat} {a b c v w y : Int32} {p : zPu} {W' : zW} {o' : Option (Nat → Int32)}
theorem cl_t {u : Nat} (h : u = 12 ∨ u = 13 ∨ u = 16 ∨ u = 18 ∨ u = 19 ∨ u = 20 ∨ u = 39 ∨ u = 45 ∨ u = 46 ∨ u = 52) (j : Nat) : cl_A 0 u j = false := by
  rcases h with rfl | rfl | rfl | rfl | rfl | rfl | rfl | rfl | rfl | rfl <;> rfl
theorem cl_t2 {u : Nat} (h : u = 16 ∨ u = 18 ∨ u = 40 ∨ u = 41 ∨ u = 51 ∨ u = 56 ∨ u = 57) (j : Nat) : cl_A 2 u j = false := by
  rcases h with rfl | rfl | rfl | rfl | rfl | rfl | rfl <;> rfl
theorem CI8_l {x' : zTx} {ci' cj' : Nat} {f fp : Int32} (hk : cl_M k = true) (e : sm_callM X true d k As σ = some (o, t)) (h : CI8 p B ci cj σ) (h1 : CRd x' ci' cj' t) (h2 : t.1 17 0 1 = 0) (h3 : t.1 15 0 11 = f) (h4 : t.1 15 0 12 = fp) : CI8 (p.1, 0, x', p.2.2.2.1, p.2.2.2.2.1, f, fp) B ci' cj' t := by
  obtain ⟨g1, g2, g3, g4, g5, g6, g7⟩ := h
  obtain ⟨f1, f2, f3, f4, f5, f6, f7⟩ := cl_fr hk e
  exact ⟨h1, CW_fr (σ := σ) (fun u c j hu => f1 _ _ _ (cl_t (by omega) _)) (fun u c j hu => f3 _ _ _ (cl_t2 (by omega) _)) (fun n hn => f7 51 n hn) (fun u hu => f4 u rfl) (f5 rfl) g2, CTo_s (σ := σ) (f1 _ _ _ (cl_t (by omega) _)) (fun k => f1 _ _ _ (cl_t (by omega) _)) g3, h2, fun j => (f1 _ _ _ (cl_t (by omega) _)).trans (g5 j), h3, h4⟩
theorem ml_t {u j : Nat} (h : u = 67 ∨ (74 ≤ u ∧ u ≤ 96) ∨ (u = 23 ∧ 24 ≤ j)) : ml_A 0 u (sm_nk u j) = false := by
  show (u == 22 || (u == 23 && (sm_nk u j == 1 || sm_nk u j == 5 || (Nat.ble 9 (sm_nk u j) && Nat.ble (sm_nk u j) 16) || (Nat.ble 20 (sm_nk u j) && Nat.ble (sm_nk u j) 23))) || (Nat.ble 59 u && Nat.ble u 66) || u == 68 || u == 69 || u == 72 || u == 73) = false
  rcases h with z | z | ⟨z, z1⟩
  · rw [z]; rfl
  · rw [show (u == 22) = false by simp; omega, show (u == 23) = false by simp; omega, ble_f (show ¬ u ≤ 66 by omega), show (u == 68) = false by simp; omega, show (u == 69) = false by simp; omega, show (u == 72) = false by simp; omega, show (u == 73) = false by simp; omega, Bool.and_false]; rfl
  · rw [z, show sm_nk 23 j = j from rfl, show (j == 1) = false by simp; omega, show (j == 5) = false by simp; omega, ble_f (show ¬ j ≤ 16 by omega), ble_f (show ¬ j ≤ 23 by omega), Bool.and_false, Bool.and_false]; rfl
theorem MI8_l {x' : zTx} {mi' mj' : Nat} {f fp : Int32} (hk : ml_M k = true) (e : sm_callM X true d k As σ = some (o, t)) (h : MI8 p mi mj σ) (h1 : MRd x' mi' mj' t) (h2 : t.1 23 0 1 = 0) (h3 : t.1 23 0 9 = f) (h4 : t.1 23 0 10 = fp) : MI8 (p.1, 0, x', p.2.2.2.1, p.2.2.2.2.1, f, fp) mi' mj' t := by
  obtain ⟨g1, g2, g3, g4, g5, g6, g7⟩ := h
  obtain ⟨f1, f2, f3, f4, f5, f6, f7⟩ := ml_fr hk e
  exact ⟨h1, MW_i (σ := σ) (fun u c j hu => f1 _ _ _ (ml_t (by omega))) g2, MTo_s (σ := σ) (fun k hk => f1 _ _ _ (ml_t (by omega))) g3, h2, fun j => (f1 _ _ _ (ml_t (by omega))).trans (g5 j), h3, h4⟩
theorem Q_load : Q8r X 168 280 [vI a] := fun p B ci cj mi mj σ τ h1 h2 h3 => by
  by_cases z : a < 0
  · refine ⟨-1, p, ci, cj, mi, mj, h1, ⟨σ, ?_, h2⟩, τ, ?_, h3⟩
    · rw [f_X11_load, q_X11_load_0, if_pos z]
    · rw [f_X13_load, q_X13_load_0, if_pos z]
  · by_cases z2 : Int32.ofNat p.2.1 < a
    · refine ⟨-1, p, ci, cj, mi, mj, h1, ⟨σ, ?_, h2⟩, τ, ?_, h3⟩
      · rw [f_X11_load, q_X11_load_0, if_neg z, h2.2.2.2.1, if_pos z2]
      · rw [f_X13_load, q_X13_load_0, if_neg z, h3.2.2.2.1, if_pos z2]
    · have h30 := h1.2.2.2
      obtain ⟨n, hn, rfl⟩ : ∃ n, n < p.2.1 + 1 ∧ a = Int32.ofNat n := i32_nat (n := p.2.1 + 1) (by omega) z (by
        rw [Int32.lt_iff_toInt_lt] at z2 ⊢
        have e1 : (Int32.ofNat p.2.1).toInt = p.2.1 := Int32.toInt_ofNat_of_lt (by omega)
        have e2 : (Int32.ofNat (p.2.1 + 1)).toInt = (p.2.1 + 1 : Nat) := Int32.toInt_ofNat_of_lt (by omega)
        omega)
      have e1 : CLd p.2.2.1 ci cj (zTk p.1 n) (zText (zTk p.1 n) 802 zA0) (sm_callM X true 500 168 [vP (21, 0), vI (Int32.ofNat n)] σ) := c_load (X := X) (d := 98) h2.2.2.2.1 h30 (by omega) h2.2.2.2.2.1 h2.1
      have e2 : MLd p.2.2.1 mi mj (zTk p.1 n) (zText (zTk p.1 n) 802 zA0) (sm_callM X true 500 280 [vP (23, 0), vI (Int32.ofNat n)] τ) := m_load (X := X) (d := 92) h3.2.2.2.1 h30 (by omega) h3.2.2.2.2.1 h1.2.2.1 h3.1
      cases hz : zText (zTk p.1 n) 802 zA0 with
      | inl e =>
        rw [hz] at e1 e2
        obtain ⟨σ', e1, a1, a2, a3, a4⟩ := e1
        obtain ⟨τ', e2, b1, b2, b3, b4⟩ := e2
        exact ⟨0, (p.1, 0, p.2.2.1, p.2.2.2.1, p.2.2.2.2.1, e.1, (zTk p.1 n).2.2.2 e.2), ci, cj, mi, mj, ⟨h1.1, h1.2.1, h1.2.2.1, Nat.zero_le _⟩, ⟨σ', e1, CI8_l (by decide) e1 h2 a3 a4 a1 a2⟩, τ', e2, MI8_l (by decide) e2 h3 b3 b4 b1 b2⟩
      | inr y =>
        rw [hz] at e1 e2
        obtain ⟨σ', e1, a1, a2, a3, a4⟩ := e1
        obtain ⟨τ', e2, b1, b2, b3, b4⟩ := e2
        exact ⟨_, (p.1, 0, (a_i y.2, a_c y.2, a_q y.2), p.2.2.2.1, p.2.2.2.2.1, 0, -1), cj, ci, mj, mi, ⟨h1.1, WTx_read hz, h1.2.2.1, Nat.zero_le _⟩, ⟨σ', e1, CI8_l (by decide) e1 h2 a3 a4 a1 a2⟩, τ', e2, MI8_l (by decide) e2 h3 b3 b4 b1 b2⟩
end
