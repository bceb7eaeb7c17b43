section
/-! EACH OF THE THIRTEEN, ON BOTH SIDES -/
variable {X : Nat × (Nat → Int32)} {d k : Nat} {As : List sm_V} {o : sm_O} {s t σ σ' τ : sm_S} {B : Nat × Nat} {ci cj mi mj : Nat} {a b c v w y : Int32} {p : zPu}
/-- both calls give the same, and both sides stand together again -/
def Q8r (X : Nat × (Nat → Int32)) (kc km : Nat) (As : List sm_V) : Prop := ∀ (p : zPu) (B : Nat × Nat) (ci cj mi mj : Nat) (σ τ : sm_S), PI8 p → CI8 p B ci cj σ → MI8 p mi mj τ → ∃ (y : Int32) (p' : zPu) (ci' cj' mi' mj' : Nat), PI8 p' ∧ (∃ σ', sm_callM X true 500 kc (vP (21, 0) :: As) σ = rI y σ' ∧ CI8 p' B ci' cj' σ') ∧ ∃ τ', sm_callM X true 500 km (vP (23, 0) :: As) τ = rI y τ' ∧ MI8 p' mi' mj' τ'
theorem Q_same {kc km : Nat} (h : ∀ (p : zPu) (B : Nat × Nat) (ci cj mi mj : Nat) (σ τ : sm_S), PI8 p → CI8 p B ci cj σ → MI8 p mi mj τ → ∃ y, sm_callM X true 500 kc (vP (21, 0) :: As) σ = rI y σ ∧ sm_callM X true 500 km (vP (23, 0) :: As) τ = rI y τ) : Q8r X kc km As := fun p B ci cj mi mj σ τ h1 h2 h3 => by
  obtain ⟨y, e1, e2⟩ := h p B ci cj mi mj σ τ h1 h2 h3
  exact ⟨y, p, ci, cj, mi, mj, h1, ⟨σ, e1, h2⟩, τ, e2, h3⟩
theorem Q_fault : Q8r X 169 281 [vI a] := Q_same fun p B ci cj mi mj σ τ _ h2 h3 => by
  have e1 := c_flt (X := X) (d := 499) (a := a) (σ := σ)
  have e2 := m_flt (X := X) (d := 499) (a := a) (σ := τ)
  rw [h2.2.2.2.2.2.1, h2.2.2.2.2.2.2] at e1
  rw [h3.2.2.2.2.2.1, h3.2.2.2.2.2.2] at e2
  exact ⟨_, e1, e2⟩
theorem Q_told : Q8r X 171 284 [vI a] := Q_same fun p B ci cj mi mj σ τ _ h2 h3 => ⟨_, c_told (X := X) (d := 498) h2.2.2.1, m_told (X := X) (d := 499) h3.2.2.1⟩
theorem Q_said : Q8r X 172 285 [vI a] := Q_same fun p B ci cj mi mj σ τ h1 h2 h3 => q_said (X := X) (d := 499) h1.1 h2.2.1 h3.2.1
theorem Q_veh : Q8r X 175 288 [vI a, vI w] := Q_same fun p B ci cj mi mj σ τ h1 h2 h3 => q_veh (X := X) (d := 496) h1.1 h2.2.1 h3.2.1
theorem Q_track : Q8r X 176 290 [vI a, vI w] := Q_same fun p B ci cj mi mj σ τ h1 h2 h3 => q_track (X := X) (d := 496) h1.1 h2.2.1 h3.2.1
theorem Q_place : Q8r X 177 291 [vI a, vI w] := Q_same fun p B ci cj mi mj σ τ h1 h2 h3 => q_place (X := X) (d := 496) h1.1 h2.2.1 h3.2.1
theorem Q_train : Q8r X 178 292 [vI a, vI w] := Q_same fun p B ci cj mi mj σ τ h1 h2 h3 => q_train (X := X) (d := 495) h1.1 h2.2.1 h3.2.1
theorem Q_count : Q8r X 179 293 [vI a] := Q_same fun p B ci cj mi mj σ τ h1 h2 h3 => q_count (X := X) (d := 498) h2.2.1 h3.2.1 h2.1.1 h2.1.2.2.2.2.2.2.1 h3.1.1 h3.1.2.1 (h2.2.2.2.1.trans h3.2.2.2.1.symm)
theorem Q_feed : Q8r X 167 279 [vI a, vI b, vI c, vI v, vI w] := fun p B ci cj mi mj σ τ h1 h2 h3 => by
  obtain ⟨g1, g2, g3, g4, g5, g6, g7⟩ := h2
  obtain ⟨m1, m2, m3, m4, m5, m6, m7⟩ := h3
  obtain ⟨w1, w2, w3, w4⟩ := h1
  obtain ⟨σ', e1, l1, r1⟩ := c_feed (X := X) (d := 498) (a := a) (b := b) (c := c) (v := v) (w := w) g4 w4 g5
  obtain ⟨τ', e2, l2, r2⟩ := m_feed (X := X) (d := 498) (a := a) (b := b) (c := c) (v := v) (w := w) m4 w4 m5
  obtain ⟨f1, f2, f3, f4, f5, f6, f7⟩ := fd_fr (by decide) e1
  obtain ⟨n1, n2, n3, n4, n5, n6, n7⟩ := fm_fr (by decide) e2
  have i1 : ∀ u c j, u ≠ 17 → u ≠ 52 → σ'.1 u c j = σ.1 u c j := fun u c j h1 h2 => f1 u c j (by
    show ((u == 17 && sm_nk u j == 1) || u == 52) = false
    rw [show (u == 17) = false by simp [h1], show (u == 52) = false by simp [h2]]; rfl)
  have j1 : ∀ u c j, (u ≠ 23 ∨ (u = 23 ∧ j ≠ 1)) → u ≠ 67 → τ'.1 u c j = τ.1 u c j := fun u c j h1 h2 => n1 u c j (by
    show ((u == 23 && sm_nk u j == 1) || u == 67) = false
    rw [show (u == 67) = false by simp [h2]]
    rcases h1 with z | ⟨z, z1⟩
    · rw [show (u == 23) = false by simp [z]]; rfl
    · rw [z, show sm_nk 23 j = j from rfl, show (j == 1) = false by simp [z1]]; rfl)
  refine ⟨feedY p.2.1, (if 2980 < p.2.1 then p.1 else put20 p.1 p.2.1 a b c v w, if 2980 < p.2.1 then p.2.1 else p.2.1 + 20, p.2.2), ci, cj, mi, mj, ⟨w1, w2, ?_, feed_le w4⟩, ⟨σ', e1, CRd_s (σ := σ) (fun u c j hu => i1 _ _ _ (by omega) (by omega)) (f3 _ _ _ rfl) (f3 _ _ _ rfl) g1, CW_fr (σ := σ) (fun u c j hu => i1 _ _ _ (by omega) (by omega)) (fun u c j hu => f3 _ _ _ rfl) (fun n hn => f7 51 n hn) (fun u hu => f4 u rfl) (f5 rfl) g2, CTo_s (σ := σ) (i1 _ _ _ (by omega) (by omega)) (fun k => i1 _ _ _ (by omega) (by omega)) g3, l1, r1, (i1 _ _ _ (by omega) (by omega)).trans g6, (i1 _ _ _ (by omega) (by omega)).trans g7⟩, τ', e2, MRd_s (σ := τ) (fun u c j hu => j1 _ _ _ (by omega) (by omega)) (n3 _ _ _ rfl) (n3 _ _ _ rfl) m1, MW_i (σ := τ) (fun u c j hu => j1 _ _ _ (by omega) (by omega)) m2, MTo_s (σ := τ) (fun k hk => j1 _ _ _ (by omega) (by omega)) m3, l2, r2, (j1 _ _ _ (by omega) (by omega)).trans m6, (j1 _ _ _ (by omega) (by omega)).trans m7⟩
  show b8 (if 2980 < p.2.1 then p.1 else put20 p.1 p.2.1 a b c v w)
  by_cases z : 2980 < p.2.1
  · rw [if_pos z]; exact w3
  · rw [if_neg z]; exact b8_20 w3
end
