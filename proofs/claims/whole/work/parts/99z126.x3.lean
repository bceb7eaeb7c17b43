section
/-! A LOAD IN THE REFERENCE -/
variable {X : Nat × (Nat → Int32)} {d : Nat} {s σ σ' : sm_S} {ci cj mi mj N : Nat} {O : Nat → Nat → Nat → Int32} {T : zT} {a b : zA} {R : Nat → Int32} {n : Nat} {x : zTx}
def MLd (x : zTx) (mi mj : Nat) (T : zT) (z : zR) (r : sm_R) : Prop := match z with
  | .inl e => ∃ σ', r = rI 0 σ' ∧ σ'.1 23 0 9 = e.1 ∧ σ'.1 23 0 10 = T.2.2.2 e.2 ∧ MRd x mi mj σ' ∧ σ'.1 23 0 1 = 0
  | .inr y => ∃ σ', r = rI (Int32.ofNat (a_q y.2).length) σ' ∧ σ'.1 23 0 9 = 0 ∧ σ'.1 23 0 10 = -1 ∧ MRd (a_i y.2, a_c y.2, a_q y.2) mj mi σ' ∧ σ'.1 23 0 1 = 0
theorem m_load {len : Nat} (hl : σ.1 23 0 1 = Int32.ofNat len) (hl3 : len ≤ 3000) (hn : n ≤ len) (hR : ∀ j, σ.1 67 0 j = R j) (hb : b8 R) (h : MRd x mi mj σ) : MLd x mi mj (zTk R n) (zText (zTk R n) 802 zA0) (sm_callM X true (d + 408) 280 [vP (23, 0), vI (Int32.ofNat n)] σ) := by
  obtain ⟨N, hN⟩ := tLast_ex R n
  obtain ⟨σ1, e1, h1⟩ := m_scan (X := X) (d := d + 398) (n := n) (by omega) hR hb hN
  have e1 : sm_callM X true (d + 407) 196 [vP (23, 0), vI (Int32.ofNat n)] σ = rV σ1 := e1
  obtain ⟨k1, -, k3, -⟩ := sc_fr (by decide) e1
  obtain ⟨g1, g2, g3, g4⟩ := h
  have r6 : (sI (sI (sI σ1 23 0 1 0) 23 0 9 0) 23 0 10 (-1)).2.2.1 23 0 6 = (22, mj) := (k3 23 0 6 rfl).trans g2
  have r7 : (sI (sI (sI σ1 23 0 1 0) 23 0 9 0) 23 0 10 (-1)).2.2.1 23 0 7 = (22, mi) := (k3 23 0 7 rfl).trans g3
  have hs : ∀ t c k, (t = 22 ∨ (59 ≤ t ∧ t ≤ 66)) → (sI (sI (sI σ1 23 0 1 0) 23 0 9 0) 23 0 10 (-1)).1 t c k = σ.1 t c k := fun t c k ht => by
    rw [gI, if_neg (by omega), gI, if_neg (by omega), gI, if_neg (by omega)]
    refine k1 t c k ?_
    show ((t == 23 && sm_nk t k == 5) || t == 68 || t == 69) = false
    rw [show (t == 23) = false by simp; omega, show (t == 68) = false by simp; omega, show (t == 69) = false by simp; omega]; rfl
  have hr := m_208 (X := X) (d := d) (mi := mi) (O := (sI (sI (sI σ1 23 0 1 0) 23 0 9 0) 23 0 10 (-1)).1) (σ := sI (sI (sI σ1 23 0 1 0) 23 0 9 0) 23 0 10 (-1)) hN (fun j hj => ?_) r7 ?_ ?_ (fun _ _ _ _ _ => rfl)
  · rw [f_X13_load, q_X13_load_0, if_neg (i_nn (by omega)), hl, if_neg (by rw [i_lt (by omega) (by omega)]; omega), e1, bV_r]
    have hoc : ∀ τ : sm_S, OM mi (sI (sI (sI σ1 23 0 1 0) 23 0 9 0) 23 0 10 (-1)).1 τ → ∀ t k, (t = 22 ∨ (59 ≤ t ∧ t ≤ 66)) → τ.1 t mj k = σ.1 t mj k := fun τ ho t k ht => (ho t mj k (fun z => g4 z.symm) ht).trans (hs t mj k ht)
    cases hz : zText (zTk R n) 802 zA0 with
    | inl ee =>
      rw [hz] at hr
      obtain ⟨σ2, e2, c1, c2, c3, c4⟩ := hr
      obtain ⟨l1, -, l3, -⟩ := tx_fr (by decide) e2
      rw [e2]
      show MLd x mi mj (zTk R n) (.inl ee) (sm_go (sm_ZZ X) sm_PP true (sm_callM X true (d + 407)) 280 41 [vP (23, 0), vI (Int32.ofNat n), vU] [vP (24, 0)] σ2)
      rw [q_X13_load_41]
      refine ⟨_, rfl, c1, c2, ⟨MTx_s (hoc σ2 c3) g1, (l3 23 0 6 rfl).trans r6, c4, g4⟩, ?_⟩
      rw [l1 23 0 1 rfl, gI, if_neg (by omega), gI, if_neg (by omega), gI, if_pos ⟨rfl, rfl, rfl⟩]
    | inr y =>
      obtain ⟨y0, a⟩ := y
      obtain ⟨tI, tb⟩ := Text_T (TK_of hN) 802 zA0 a y0 TI_0 (Nat.zero_le _) rfl hz
      rw [hz] at hr
      obtain ⟨σ2, e2, ⟨-, -, -, p4⟩, p1, p2, -, -, p7, po⟩ := hr
      obtain ⟨l1, -, l3, -⟩ := tx_fr (by decide) e2
      have s6 : σ2.2.2.1 23 0 6 = (22, mj) := (l3 23 0 6 rfl).trans r6
      have e6 : (sR (sR σ2 23 0 6 (σ2.2.2.1 23 0 7)) 23 0 7 (σ2.2.2.1 23 0 6)).2.2.1 23 0 6 = (22, mi) := by rw [gR, if_neg (by omega), gR, if_pos ⟨rfl, rfl, rfl⟩]; exact p7
      rw [e2, bV_r, e6, rq_t]
      have e9 : (sR (sR σ2 23 0 6 (σ2.2.2.1 23 0 7)) 23 0 7 (σ2.2.2.1 23 0 6)).1 22 mi 0 = Int32.ofNat (a_q a).length := p2.1
      rw [e9]
      rw [show a_b ((y0, a) : Int32 × zA).2 = (a_q a).length from tb] at p2
      refine ⟨_, rfl, p4.2.1, p4.2.2, ⟨⟨p1, MQt_of p2⟩, e6, ?_, fun z => g4 z.symm⟩, ?_⟩
      · rw [gR, if_pos ⟨rfl, rfl, rfl⟩]; exact s6
      · rw [gRI, gRI, l1 23 0 1 rfl, gI, if_neg (by omega), gI, if_neg (by omega), gI, if_pos ⟨rfl, rfl, rfl⟩]
  · obtain ⟨b1, b2, b3⟩ := h1.1 j hj
    exact ⟨by rw [gI, if_neg (by omega), gI, if_neg (by omega), gI, if_neg (by omega)]; exact b1, by rw [gI, if_neg (by omega), gI, if_neg (by omega), gI, if_neg (by omega)]; exact b2, b3⟩
  · rw [gI, if_neg (by omega), gI, if_pos ⟨rfl, rfl, rfl⟩]
  · rw [gI, if_pos ⟨rfl, rfl, rfl⟩]
end
