section
/-! A RUN, IN THE CLASS AND IN THE REFERENCE -/
variable {X : Nat × (Nat → Int32)} {d : Nat} {s σ σ' τ : sm_S} {W W' : zW} {B : Nat × Nat} {n i k m j mi ci q pc q0 tgt : Nat} {c t u nx v arg ty pl c0 c1 c2 a b : Int32} {x : zTx} {nm : Nat → Int32} {fu : Nat} {p : zP} {z : Int32 × Int32 × Int32 × zW × Nat}
/-- a proc that may be run -/
def mayP (x : zTx) (k : Nat) : Bool := match x.2.2[k]? with
  | some q => Nat.ble q.2.2.1.length 2 && q.2.2.1.all (· == 36)
  | none => false
theorem mayP_s (h : x.2.2[k]? = some p) (hm : mayP x k = true) : p.2.2.1.length ≤ 2 ∧ ∀ t ∈ p.2.2.1, t = 36 := by
  unfold mayP at hm
  rw [h] at hm
  have hm : (Nat.ble p.2.2.1.length 2 && p.2.2.1.all (· == 36)) = true := hm
  rw [Bool.and_eq_true, List.all_eq_true] at hm
  exact ⟨Nat.le_of_ble_eq_true hm.1, fun t ht => by simpa using hm.2 t ht⟩
theorem all_drop {l : List Int32} (h : i < l.length) : ((l.drop i).all (· == 36) = true) ↔ (l[i] = 36 ∧ (l.drop (i + 1)).all (· == 36) = true) := by
  rw [List.drop_eq_getElem_cons h, List.all_cons, Bool.and_eq_true, beq_iff_eq]
theorem c_takes_go (hT : CTx x ci σ) (hp : x.2.2[k]? = some p) : ∀ (m i : Nat), i + m = p.2.2.1.length → sm_go (sm_ZZ X) sm_PP true (sm_callM X true (d + 3)) 12 8 [vP (10, ci), vI (Int32.ofNat (5 + k)), vI (Int32.ofNat p.2.2.1.length), vI (Int32.ofNat i)] [] σ = rI (if (p.2.2.1.drop i).all (· == 36) = true ∧ p.2.2.1.length ≤ 2 then 1 else 0) σ
  | 0, i, hi => by
    have h4 := (hT.2.2.2 k p hp).2.2.1
    rw [q_X0_takesInts_8, if_neg (by rw [i_lt (by omega) (by omega)]; omega), List.drop_of_length_le (by omega), show (2 : Int32) = Int32.ofNat 2 from rfl]
    by_cases z : p.2.2.1.length ≤ 2
    · rw [if_neg (by rw [i_lt (by omega) (by omega)]; omega), if_pos ⟨rfl, z⟩]
    · rw [if_pos (by rw [i_lt (by omega) (by omega)]; omega), if_neg (fun y => z y.2)]
  | m + 1, i, hi => by
    have hk := (List.getElem?_eq_some_iff.mp hp).1
    have h12 := hT.2.2.1
    obtain ⟨g1, g2, g3, g4, g5, g6⟩ := hT.2.2.2 k p hp
    have hi' : i < p.2.2.1.length := by omega
    have ht := g6 i _ (List.getElem?_eq_getElem hi')
    obtain ⟨p1, -, -⟩ := c_procOf (X := X) (d := d) hT hp
    have e5 : Int32.ofNat (5 + k) * 4 + Int32.ofNat i = Int32.ofNat ((5 + k) * 4 + i) := by
      rw [show (4 : Int32) = Int32.ofNat 4 from rfl, ← Int32.ofNat_mul, ← Int32.ofNat_add]
    rw [q_X0_takesInts_8, if_pos (by rw [i_lt (by omega) (by omega)]; omega), f_X0_parameter, q_X0_parameter_0, if_neg (i_nn (by omega)), p1, bI_r, if_pos (by rw [i_lt (by omega) (by omega)]; omega), q_X0_parameter_18, if_neg (show ¬ (1 : Int32) = 0 by decide), e5, ix_nat (by omega) (by omega), ht, bI_r, i_s]
    by_cases z : p.2.2.1[i] = 36
    · rw [if_pos z, c_takes_go hT hp m (i + 1) (by omega)]
      by_cases w : (p.2.2.1.drop (i + 1)).all (· == 36) = true ∧ p.2.2.1.length ≤ 2
      · rw [if_pos w, if_pos ⟨(all_drop hi').mpr ⟨z, w.1⟩, w.2⟩]
      · rw [if_neg w, if_neg (fun y => w ⟨((all_drop hi').mp y.1).2, y.2⟩)]
    · rw [if_neg z, if_neg (fun y => z ((all_drop hi').mp y.1).1)]
theorem mayP_e (h : x.2.2[k]? = some p) : mayP x k = true ↔ (p.2.2.1.all (· == 36) = true ∧ p.2.2.1.length ≤ 2) := by
  unfold mayP
  rw [h]
  show (Nat.ble p.2.2.1.length 2 && p.2.2.1.all (· == 36)) = true ↔ _
  rw [Bool.and_eq_true, Nat.ble_eq]
  exact And.comm
theorem c_takes12 (hT : CTx x ci σ) (hp : x.2.2[k]? = some p) : sm_callM X true (d + 4) 12 [vP (10, ci), vI (Int32.ofNat (5 + k))] σ = rI (if mayP x k = true then 1 else 0) σ := by
  obtain ⟨p1, -, -⟩ := c_procOf (X := X) (d := d + 1) hT hp
  have p1 : sm_callM X true (d + 3) 8 [vP (10, ci), vI (Int32.ofNat (5 + k))] σ = rI (Int32.ofNat p.2.2.1.length) σ := p1
  have e := c_takes_go (X := X) (d := d) hT hp p.2.2.1.length 0 (Nat.zero_add _)
  have e : sm_go (sm_ZZ X) sm_PP true (sm_callM X true (d + 3)) 12 8 [vP (10, ci), vI (Int32.ofNat (5 + k)), vI (Int32.ofNat p.2.2.1.length), vI 0] [] σ = rI (if p.2.2.1.all (· == 36) = true ∧ p.2.2.1.length ≤ 2 then 1 else 0) σ := e
  rw [f_X0_takesInts, q_X0_takesInts_0, p1, bI_r, e]
  by_cases w : mayP x k = true
  · rw [if_pos w, if_pos ((mayP_e hp).mp w)]
  · rw [if_neg w, if_neg (fun y => w ((mayP_e hp).mpr y))]
theorem m_may_go (hT : MTx x mi σ) (h6 : σ.2.2.1 23 0 6 = (22, mi)) (hp : x.2.2[k]? = some p) : ∀ (m i : Nat), i + m = p.2.2.1.length → sm_go (sm_ZZ X) sm_PP true (sm_callM X true d) 282 32 [vP (23, 0), vI (Int32.ofNat k), vI (Int32.ofNat i)] [] σ = rI (if (p.2.2.1.drop i).all (· == 36) = true then 1 else 0) σ
  | 0, i, hi => by
    have hk := (List.getElem?_eq_some_iff.mp hp).1
    have h12 := hT.2.2.1
    obtain ⟨g1, g2, g3, g4, g5, g6⟩ := hT.2.2.2 k p hp
    rw [q_X13_mayRun_32, h6, rq_t, ix_nat (by omega) (by omega), g4, if_neg (by rw [i_lt (by omega) (by omega)]; omega), List.drop_of_length_le (by omega)]
    rfl
  | m + 1, i, hi => by
    have hk := (List.getElem?_eq_some_iff.mp hp).1
    have h12 := hT.2.2.1
    obtain ⟨g1, g2, g3, g4, g5, g6⟩ := hT.2.2.2 k p hp
    have hi' : i < p.2.2.1.length := by omega
    have ht := g6 i _ (List.getElem?_eq_getElem hi')
    have e4 : (4 : Int32) * Int32.ofNat k + Int32.ofNat i = Int32.ofNat (4 * k + i) := by
      rw [show (4 : Int32) = Int32.ofNat 4 from rfl, ← Int32.ofNat_mul, ← Int32.ofNat_add]
    rw [q_X13_mayRun_32, h6, rq_t, ix_nat (by omega) (by omega), g4, if_pos (by rw [i_lt (by omega) (by omega)]; omega), rq_t, e4, ix_nat (by omega) (by omega), ht, i_s]
    by_cases z : p.2.2.1[i] = 36
    · rw [if_pos z, m_may_go hT h6 hp m (i + 1) (by omega)]
      by_cases w : (p.2.2.1.drop (i + 1)).all (· == 36) = true
      · rw [if_pos w, if_pos ((all_drop hi').mpr ⟨z, w⟩)]
      · rw [if_neg w, if_neg (fun y => w ((all_drop hi').mp y).2)]
    · rw [if_neg z, if_neg (fun y => z ((all_drop hi').mp y).1)]
theorem m_may (hT : MTx x mi σ) (h6 : σ.2.2.1 23 0 6 = (22, mi)) (hp : x.2.2[k]? = some p) : sm_callM X true (d + 1) 282 [vP (23, 0), vI (Int32.ofNat k)] σ = rI (if mayP x k = true then 1 else 0) σ := by
  have hk := (List.getElem?_eq_some_iff.mp hp).1
  have h12 := hT.2.2.1
  obtain ⟨g1, g2, g3, g4, g5, g6⟩ := hT.2.2.2 k p hp
  have e := m_may_go (X := X) (d := d) hT h6 hp p.2.2.1.length 0 (Nat.zero_add _)
  have e : sm_go (sm_ZZ X) sm_PP true (sm_callM X true d) 282 32 [vP (23, 0), vI (Int32.ofNat k), vI 0] [] σ = rI (if p.2.2.1.all (· == 36) = true then 1 else 0) σ := e
  rw [f_X13_mayRun, q_X13_mayRun_0, if_neg (i_nn (by omega)), h6, rq_t, hT.2.1, if_pos (by rw [i_lt (by omega) (by omega)]; exact hk), rq_t, ix_nat (by omega) (by omega), g4, show (2 : Int32) = Int32.ofNat 2 from rfl]
  by_cases z : p.2.2.1.length ≤ 2
  · rw [if_neg (by rw [i_lt (by omega) (by omega)]; omega), e]
    by_cases w : mayP x k = true
    · rw [if_pos w, if_pos ((mayP_e hp).mp w).1]
    · rw [if_neg w, if_neg (fun y => w ((mayP_e hp).mpr ⟨y, z⟩))]
  · rw [if_pos (by rw [i_lt (by omega) (by omega)]; omega), if_neg (fun w => z ((mayP_e hp).mp w).2)]
/-- what the reference tells of the latest run -/
def MTd (T : Nat → Int32) (σ : sm_S) : Prop := σ.1 23 0 56 = 1 ∧ σ.1 23 0 50 = T 0 ∧ σ.1 23 0 51 = T 1 ∧ σ.1 23 0 54 = T 2 ∧ σ.1 23 0 55 = T 3 ∧ σ.1 23 0 49 = T 4 ∧ σ.1 23 0 52 = T 5 ∧ σ.1 23 0 53 = T 6
theorem pTy_lt (h : pTy ty) : (ty < 36 ↔ cRef ty = 1) ∧ (ty = 36 ∨ ty = 38 ∨ cRef ty = 1) := by
  rcases h with rfl | rfl | ⟨n, n1, rfl⟩
  · exact ⟨by decide, Or.inl rfl⟩
  · exact ⟨by decide, Or.inr (Or.inl rfl)⟩
  · exact ⟨⟨fun _ => cRef_k n n1, fun _ => by rw [show (36 : Int32) = Int32.ofNat 36 from rfl, i_lt (by omega) (by omega)]; exact n1⟩, Or.inr (Or.inr (cRef_k n n1))⟩
theorem m_given (hW : WW W) (h : MW W σ) (hv : VT W ty v) (hr : cRef ty = 1) (hz : v ≠ 0) (h51 : σ.1 23 0 51 = mV ty v) {y : Int32} {d1 d2 d3 d4 : sm_V} {t54 : Int32} : sm_go (sm_ZZ X) sm_PP true (sm_callM X true (d + 1)) 283 163 [vP (23, 0), d1, d2, d3, d4, vI y, vI 1] [vI t54, vP (23, 0)] σ = sm_go (sm_ZZ X) sm_PP true (sm_callM X true (d + 1)) 283 209 [vP (23, 0), vU, vU, vU, vU, vI y, vI 1] [vI (if v < 0 then Int32.ofNat (rowAt W (ixR v)).2.length else v - 1), vP (23, 0)] (sI σ 23 0 54 t54) := by
  have a1 := hW.1.1
  have a2 := hW.1.2.1
  have e51 : (sI σ 23 0 54 t54).1 23 0 51 = mV ty v := h51
  rw [q_X13_run_163, rq_t, if_neg (show ¬ (1 : Int32) = 0 by decide), e51]
  rcases VT_ref hv hr hz with ⟨w, kk, n1, rfl, -⟩ | ⟨w, kk, n1, rfl, -⟩
  · rw [mV_veh (by omega), show (1001 : Int32) = Int32.ofNat 1001 from rfl, if_pos (by rw [i_lt (by omega) (by omega)]; omega), m_asV, bI_r, if_neg (rfV_pos (by omega)).1]; rfl
  · have e78 : (sI σ 23 0 54 t54).1 78 0 w = Int32.ofNat (rowAt W w).2.length := (h.2.1.2.2.1 w n1).2.2.1
    rw [mV_r1 hr (by omega), show (1001 : Int32) = Int32.ofNat 1001 from rfl, if_neg (by rw [i_lt (by omega) (by omega)]; omega), i_sub, ix_nat (by omega) (by omega), e78, if_pos (rfR_neg (by omega)), ixR_rf (by omega)]
/-- what the machine of the reference writes -/
def mr_M (k : Nat) : Bool := (Nat.ble 181 k && Nat.ble k 186) || ((Nat.ble 246 k && Nat.ble k 276) || Nat.ble 294 k)
def mr_A : sm_A := fun q t k => match q with
  | 0 => (t == 23 && ((Nat.ble 24 k && Nat.ble k 53) || k == 57 || k == 60 || k == 61)) || (Nat.ble 74 t && Nat.ble t 96)
  | _ => false
theorem mr_ok : (List.range 308).all (fun k => !(mr_M k) || (sm_cd k).all (sm_ckA true mr_A mr_M)) = true := by decide +kernel
theorem mr_fr {k : Nat} {As : List sm_V} {o : sm_O} {t : sm_S} (hk : mr_M k = true) (h : sm_callM X true d k As σ = some (o, t)) : sm_fr mr_A σ t := by
  refine sm_callM_fr (fun k hk hM => ?_) d k As σ o t hk h
  have := List.all_eq_true.mp mr_ok k (List.mem_range.mpr hk)
  rw [hM] at this
  exact this
/-- behind the loop -/
theorem m_run122 (hW : WW z.2.2.2.1) (h : ME x mi q0 z σ) (hp : x.2.2[q0]? = some p) (hty : pTy p.2.1) (hv : z.1 = 0 → VT z.2.2.2.1 p.2.1 z.2.1) (h56 : σ.1 23 0 56 = 1) {d1 d2 d3 d4 d5 d6 : sm_V} : ∃ σ', sm_go (sm_ZZ X) sm_PP true (sm_callM X true (d + 1)) 283 122 [vP (23, 0), d1, d2, d3, d4, d5, d6] [vI (if z.1 = 0 then p.2.1 else 38)] σ = rI z.1 σ' ∧ MW z.2.2.2.1 σ' ∧ MTx x mi σ' ∧ MTd (tell p.2.1 z) σ' ∧ σ'.2 = σ.2 := by
  have hlt := pTy_lt hty
  obtain ⟨w, h1, h2, h3, h4, h5, h6, h7, h8⟩ := h
  have h8 := h8 p hp
  have fin : ∀ (t54 t55 : Int32) (tyv : Int32), (tyv = 36 ↔ (z.1 = 0 ∧ p.2.1 = 36)) → t54 = tell p.2.1 z 2 → t55 = tell p.2.1 z 3 → ∀ (e1 e2 e3 e4 e6 : sm_V), ∃ σ', sm_go (sm_ZZ X) sm_PP true (sm_callM X true (d + 1)) 283 209 [vP (23, 0), e1, e2, e3, e4, vI tyv, e6] [vI t55, vP (23, 0)] (sI σ 23 0 54 t54) = rI z.1 σ' ∧ MW z.2.2.2.1 σ' ∧ MTx x mi σ' ∧ MTd (tell p.2.1 z) σ' ∧ σ'.2 = σ.2 := fun t54 t55 tyv htv h54 h55 e1 e2 e3 e4 e6 => by
    have e51 : (sI (sI σ 23 0 54 t54) 23 0 55 t55).1 23 0 51 = if z.1 = 0 then mV p.2.1 z.2.1 else 0 := h8
    have fin2 : ∀ g : Int32, g = tell p.2.1 z 1 → MW z.2.2.2.1 (sI (sI (sI σ 23 0 54 t54) 23 0 55 t55) 23 0 51 g) ∧ MTx x mi (sI (sI (sI σ 23 0 54 t54) 23 0 55 t55) 23 0 51 g) ∧ MTd (tell p.2.1 z) (sI (sI (sI σ 23 0 54 t54) 23 0 55 t55) 23 0 51 g) ∧ (sI (sI (sI σ 23 0 54 t54) 23 0 55 t55) 23 0 51 g).2 = σ.2 := fun g hg => by
      exact ⟨MW_o3 (by decide) (by decide) (by decide) w, MTx_s (σ := σ) (fun t k ht => by rw [gI, if_neg (by omega), gI, if_neg (by omega), gI, if_neg (by omega)]) h1, ⟨h56, h4, hg, h54, h55, h5, h6, h7⟩, rfl⟩
    have e50 : ∀ g : Int32, (sI (sI (sI σ 23 0 54 t54) 23 0 55 t55) 23 0 51 g).1 23 0 50 = z.1 := fun g => h4
    rw [q_X13_run_209, rq_t]
    by_cases y : tyv = 36
    · obtain ⟨y1, y2⟩ := htv.mp y
      rw [if_pos y, e51, e50]
      exact ⟨_, rfl, fin2 _ (by
        show _ = if z.1 = 0 ∧ p.2.1 = 36 then z.2.1 else 0
        rw [if_pos y1, if_pos ⟨y1, y2⟩, mV_i y2])⟩
    · rw [if_neg y, e50]
      exact ⟨_, rfl, fin2 _ (by
        show _ = if z.1 = 0 ∧ p.2.1 = 36 then z.2.1 else 0
        rw [if_neg (fun q => y (htv.mpr q))])⟩
  have none' : ∀ (tyv : Int32), (tyv = 36 ↔ (z.1 = 0 ∧ p.2.1 = 36)) → ¬ (z.1 = 0 ∧ cRef p.2.1 = 1 ∧ z.2.1 ≠ 0) → ∀ (e1 e2 e3 e4 e6 : sm_V), ∃ σ', sm_go (sm_ZZ X) sm_PP true (sm_callM X true (d + 1)) 283 143 [vP (23, 0), e1, e2, e3, e4, vI tyv, e6] [vI 0] σ = rI z.1 σ' ∧ MW z.2.2.2.1 σ' ∧ MTx x mi σ' ∧ MTd (tell p.2.1 z) σ' ∧ σ'.2 = σ.2 := fun tyv htv hn e1 e2 e3 e4 e6 => by
    rw [q_X13_run_143, if_pos rfl, q_X13_run_163, rq_t, if_pos rfl]
    refine fin _ _ tyv htv ?_ ?_ _ _ _ _ _
    · show _ = if z.1 = 0 ∧ cRef p.2.1 = 1 ∧ z.2.1 ≠ 0 then _ else -1
      rw [if_neg hn]
    · show _ = if z.1 = 0 ∧ cRef p.2.1 = 1 ∧ z.2.1 ≠ 0 then _ else -1
      rw [if_neg hn]
  rw [q_X13_run_122]
  by_cases z0 : z.1 = 0
  · rw [if_pos z0]
    by_cases hr : cRef p.2.1 = 1
    · have hvv := hv z0
      have h51 : σ.1 23 0 51 = mV p.2.1 z.2.1 := by rw [h8, if_pos z0]
      have n36 := (cRef_n hr).1
      rw [if_pos (hlt.1.mpr hr), h51]
      by_cases y : z.2.1 = 0
      · rw [if_pos ((mV_z hW hvv).mpr y)]
        exact none' _ ⟨fun q => ⟨z0, q⟩, fun q => q.2⟩ (fun q => q.2.2 y) _ _ _ _ _
      · have e1 := m_typeOf (X := X) (d := d) hW w hvv hr y
        rw [if_neg (fun q => y ((mV_z hW hvv).mp q)), q_X13_run_143, if_neg (show ¬ (1 : Int32) = 0 by decide), h51, e1, bI_r, m_given hW w hvv hr y h51]
        refine fin _ _ _ ⟨fun q => ⟨z0, q⟩, fun q => q.2⟩ ?_ ?_ _ _ _ _ _
        · show _ = if z.1 = 0 ∧ cRef p.2.1 = 1 ∧ z.2.1 ≠ 0 then tyOf z.2.2.2.1 z.2.1 else -1
          rw [if_pos (show z.1 = 0 ∧ cRef p.2.1 = 1 ∧ z.2.1 ≠ 0 from ⟨z0, hr, y⟩)]
        · show _ = if z.1 = 0 ∧ cRef p.2.1 = 1 ∧ z.2.1 ≠ 0 then (if z.2.1 < 0 then Int32.ofNat (rowAt z.2.2.2.1 (ixR z.2.1)).2.length else z.2.1 - 1) else -1
          rw [if_pos (show z.1 = 0 ∧ cRef p.2.1 = 1 ∧ z.2.1 ≠ 0 from ⟨z0, hr, y⟩)]
    · rw [if_neg (fun q => hr (hlt.1.mp q))]
      exact none' _ ⟨fun q => ⟨z0, q⟩, fun q => q.2⟩ (fun q => hr q.2.1) _ _ _ _ _
  · rw [if_neg z0, if_neg (show ¬ (38 : Int32) < 36 by decide)]
    exact none' _ ⟨fun q => absurd q (by decide), fun q => absurd q.1 z0⟩ (fun q => z0 q.1) _ _ _ _ _
theorem m_run283 (hx : WTx x) (hW : WW W) (hM : MW W σ) (hT : MTx x mi σ) (h6 : σ.2.2.1 23 0 6 = (22, mi)) (hp : x.2.2[k]? = some p) (hmay : mayP x k = true) (hfu : fu ≤ 2000) (hr : runM x 4000000 W [(k, p.2.2.2, nm0 a b, [])] fu = .inr z) : ∃ σ', sm_callM X true (d + 14) 283 [vP (23, 0), vI (Int32.ofNat k), vI a, vI b, vI (Int32.ofNat fu)] σ = rI z.1 σ' ∧ MW z.2.2.2.1 σ' ∧ MTx x mi σ' ∧ MTd (tell p.2.1 z) σ' ∧ σ'.2.2.1 23 0 6 = (22, mi) := by
  obtain ⟨h2, hI⟩ := mayP_s hp hmay
  have hk := (List.getElem?_eq_some_iff.mp hp).1
  have h12 := hT.2.2.1
  have hpt := hx.2.2.2.2.2.2.2.1 p (List.mem_of_getElem? hp)
  obtain ⟨z', hr', hok⟩ := run_0 (fu := fu) (nm := nm0 a b) hx hW hp hI hfu
  have hz : z' = z := by rw [hr] at hr'; exact (Sum.inr.inj hr').symm
  subst hz
  have hpot : pot x [(k, p.2.2.2, nm0 a b, [])] fu < 4000000 := by
    have := rhoF_le (l := x.1) (F := [(k, p.2.2.2, nm0 a b, [])])
    have := hx.2.2.2.1
    unfold pot
    show 1810 * fu + 902 * 1 + _ < _
    omega
  obtain ⟨-, ok2, ⟨n, n10, hn⟩, ok4⟩ := hok
  have e1 := m_may (X := X) (d := d + 12) hT h6 hp
  have e1 : sm_callM X true (d + 13) 282 [vP (23, 0), vI (Int32.ofNat k)] σ = rI (if mayP x k = true then 1 else 0) σ := e1
  rw [f_X13_run, q_X13_run_0, e1, bI_r, if_pos hmay, if_neg (show ¬ (1 : Int32) = 0 by decide), if_neg (i_nn (by omega)), show (2000 : Int32) = Int32.ofNat 2000 from rfl, if_neg (by rw [i_lt (by omega) (by omega)]; omega), show sm_ix 0 4000 = sm_ix (Int32.ofNat 0) 4000 from rfl, ix_nat (by omega) (by omega), show sm_ix 1 4000 = sm_ix (Int32.ofNat 1) 4000 from rfl, ix_nat (by omega) (by omega)]
  have q1 : MW W (sI (sI (sI (sI (sI (sI (sI (sI (sI (sI σ 23 0 56 1) 23 0 57 0) 23 0 49 (Int32.ofNat fu)) 23 0 51 0) 23 0 52 0) 23 0 53 (-1)) 23 0 47 0) 23 0 39 0) 81 0 0 a) 81 0 1 b) := MW_i (σ := σ) (fun t i k ht => by rw [gI, if_neg (by omega), gI, if_neg (by omega), gI, if_neg (by omega), gI, if_neg (by omega), gI, if_neg (by omega), gI, if_neg (by omega), gI, if_neg (by omega), gI, if_neg (by omega), gI, if_neg (by omega), gI, if_neg (by omega)]) hM
  have q2 : MTx x mi (sI (sI (sI (sI (sI (sI (sI (sI (sI (sI σ 23 0 56 1) 23 0 57 0) 23 0 49 (Int32.ofNat fu)) 23 0 51 0) 23 0 52 0) 23 0 53 (-1)) 23 0 47 0) 23 0 39 0) 81 0 0 a) 81 0 1 b) := MTx_s (σ := σ) (fun t k ht => by rw [gI, if_neg (by omega), gI, if_neg (by omega), gI, if_neg (by omega), gI, if_neg (by omega), gI, if_neg (by omega), gI, if_neg (by omega), gI, if_neg (by omega), gI, if_neg (by omega), gI, if_neg (by omega), gI, if_neg (by omega)]) hT
  have q3 : (sI (sI (sI (sI (sI (sI (sI (sI (sI (sI σ 23 0 56 1) 23 0 57 0) 23 0 49 (Int32.ofNat fu)) 23 0 51 0) 23 0 52 0) 23 0 53 (-1)) 23 0 47 0) 23 0 39 0) 81 0 0 a) 81 0 1 b).2.2.1 23 0 6 = (22, mi) := h6
  have q56 : (sI (sI (sI (sI (sI (sI (sI (sI (sI (sI σ 23 0 56 1) 23 0 57 0) 23 0 49 (Int32.ofNat fu)) 23 0 51 0) 23 0 52 0) 23 0 53 (-1)) 23 0 47 0) 23 0 39 0) 81 0 0 a) 81 0 1 b).1 23 0 56 = 1 := rfl
  have q57 : (sI (sI (sI (sI (sI (sI (sI (sI (sI (sI σ 23 0 56 1) 23 0 57 0) 23 0 49 (Int32.ofNat fu)) 23 0 51 0) 23 0 52 0) 23 0 53 (-1)) 23 0 47 0) 23 0 39 0) 81 0 0 a) 81 0 1 b).1 23 0 57 = 0 := rfl
  have q49 : (sI (sI (sI (sI (sI (sI (sI (sI (sI (sI σ 23 0 56 1) 23 0 57 0) 23 0 49 (Int32.ofNat fu)) 23 0 51 0) 23 0 52 0) 23 0 53 (-1)) 23 0 47 0) 23 0 39 0) 81 0 0 a) 81 0 1 b).1 23 0 49 = Int32.ofNat fu := rfl
  have q51 : (sI (sI (sI (sI (sI (sI (sI (sI (sI (sI σ 23 0 56 1) 23 0 57 0) 23 0 49 (Int32.ofNat fu)) 23 0 51 0) 23 0 52 0) 23 0 53 (-1)) 23 0 47 0) 23 0 39 0) 81 0 0 a) 81 0 1 b).1 23 0 51 = 0 := rfl
  have q52 : (sI (sI (sI (sI (sI (sI (sI (sI (sI (sI σ 23 0 56 1) 23 0 57 0) 23 0 49 (Int32.ofNat fu)) 23 0 51 0) 23 0 52 0) 23 0 53 (-1)) 23 0 47 0) 23 0 39 0) 81 0 0 a) 81 0 1 b).1 23 0 52 = 0 := rfl
  have q53 : (sI (sI (sI (sI (sI (sI (sI (sI (sI (sI σ 23 0 56 1) 23 0 57 0) 23 0 49 (Int32.ofNat fu)) 23 0 51 0) 23 0 52 0) 23 0 53 (-1)) 23 0 47 0) 23 0 39 0) 81 0 0 a) 81 0 1 b).1 23 0 53 = -1 := rfl
  have q47 : (sI (sI (sI (sI (sI (sI (sI (sI (sI (sI σ 23 0 56 1) 23 0 57 0) 23 0 49 (Int32.ofNat fu)) 23 0 51 0) 23 0 52 0) 23 0 53 (-1)) 23 0 47 0) 23 0 39 0) 81 0 0 a) 81 0 1 b).1 23 0 47 = Int32.ofNat 0 := rfl
  have q39 : (sI (sI (sI (sI (sI (sI (sI (sI (sI (sI σ 23 0 56 1) 23 0 57 0) 23 0 49 (Int32.ofNat fu)) 23 0 51 0) 23 0 52 0) 23 0 53 (-1)) 23 0 47 0) 23 0 39 0) 81 0 0 a) 81 0 1 b).1 23 0 39 = Int32.ofNat 0 := rfl
  have q81 : ∀ j, j < 2 → (sI (sI (sI (sI (sI (sI (sI (sI (sI (sI σ 23 0 56 1) 23 0 57 0) 23 0 49 (Int32.ofNat fu)) 23 0 51 0) 23 0 52 0) 23 0 53 (-1)) 23 0 47 0) 23 0 39 0) 81 0 0 a) 81 0 1 b).1 81 0 j = nm0 a b j := fun j hj => by
    have hj2 : j = 0 ∨ j = 1 := by omega
    rcases hj2 with rfl | rfl <;> rfl
  generalize sI (sI (sI (sI (sI (sI (sI (sI (sI (sI σ 23 0 56 1) 23 0 57 0) 23 0 49 (Int32.ofNat fu)) 23 0 51 0) 23 0 52 0) 23 0 53 (-1)) 23 0 47 0) 23 0 39 0) 81 0 0 a) 81 0 1 b = τ at q1 q2 q3 q56 q57 q49 q51 q52 q53 q47 q39 q81 ⊢
  obtain ⟨g1, g2, g3, g4, g5, g6⟩ := q2.2.2.2 k p hp
  rw [q3, rq_t, ix_nat (by omega) (by omega), g4]
  have q1' : MW W (sI τ 23 0 37 (Int32.ofNat p.2.2.1.length)) := MW_i (σ := τ) (fun t i k ht => by rw [gI, if_neg (by omega)]) q1
  have q2' : MTx x mi (sI τ 23 0 37 (Int32.ofNat p.2.2.1.length)) := MTx_s (σ := τ) (fun t k ht => by rw [gI, if_neg (by omega)]) q2
  obtain ⟨τ1, f1, u1, u2, u3, u4, u5, u6, u7, u8, u9, u10⟩ := m_enter (X := X) (d := d + 12) (σ := sI τ 23 0 37 (Int32.ofNat p.2.2.1.length)) (bk := -1) (dep := 0) (bt := 0) q2' q3 hp hx.2.2.2.1 q39 (by omega) (by rw [gI, if_pos ⟨rfl, rfl, rfl⟩]; rfl) (by omega)
  have f1' : sm_callM X true (d + 13) 258 [vP (23, 0), vI (Int32.ofNat k), vI (-1)] (sI τ 23 0 37 (Int32.ofNat p.2.2.1.length)) = rV τ1 := f1
  rw [f1', bV_r]
  have G : ∀ t a j, t ≠ 82 → t ≠ 83 → t ≠ 84 → t ≠ 85 → ¬ (t = 23 ∧ (j = 37 ∨ j = 48)) → τ1.1 t a j = τ.1 t a j := fun t a j y1 y2 y3 y4 y5 => by
    rw [u1 t a j y1 y2 y3 y4 y5, gI, if_neg (by omega)]
  obtain ⟨e0, l1, l2, l3, l4, l5, l6⟩ := Lands_0 (hx.2.2.1 k p hp)
  have l3 : (i_g e0).1 = [] := l3
  have l6 : i_h e0 = [] := l6
  have hMMn : MMn x mi W [(k, p.2.2.2, nm0 a b, [])] fu τ1 := by
    refine ⟨_, _, e0, rfl, l1, MW_i (σ := τ) (fun t i k ht => G _ _ _ (by omega) (by omega) (by omega) (by omega) (by omega)) q1, ?_⟩
    have em : mOps (i_g e0).1 [] = [] := by rw [l3]; rfl
    show MSt x mi (i_g e0).2.1 (nm0 a b) (mOps (i_g e0).1 []) (i_h e0) k [] (Int32.ofNat (pos vM x.1 p.2.2.2)) fu τ1
    rw [em, l6]
    refine ⟨MTx_s (σ := τ) (fun t k ht => G _ _ _ (by omega) (by omega) (by omega) (by omega) (by omega)) q2, by rw [u2]; exact q3, u3, (G _ _ _ (by omega) (by omega) (by omega) (by omega) (by omega)).trans q39, u4, (G _ _ _ (by omega) (by omega) (by omega) (by omega) (by omega)).trans q49, ⟨(G _ _ _ (by omega) (by omega) (by omega) (by omega) (by omega)).trans q57, (G _ _ _ (by omega) (by omega) (by omega) (by omega) (by omega)).trans q51, (G _ _ _ (by omega) (by omega) (by omega) (by omega) (by omega)).trans q52, (G _ _ _ (by omega) (by omega) (by omega) (by omega) (by omega)).trans q53⟩, ⟨u8, u7, (fun g r' hg => by cases hg), fun y hy => ?_, (fun i c hi => by cases hi), fun y hy => ?_⟩, trivial, ⟨(G _ _ _ (by omega) (by omega) (by omega) (by omega) (by omega)).trans q47, (fun i j dp bt hi => by cases hi)⟩, by show 0 + 0 ≤ 1300; omega, by show 0 ≤ 14; omega⟩
    · have hy' := kPar_mem (l4 y hy)
      have hlt := (List.getElem?_eq_some_iff.mp hy').1
      show τ1.1 82 0 (24 * 0 + y.1) = mV y.2 (nm0 a b y.1)
      rw [u10 _ hlt, mV_i (hI _ (List.mem_of_getElem? hy'))]
      show τ.1 81 0 (0 + y.1) = _
      rw [Nat.zero_add]; exact q81 _ (by omega)
    · have := kPar_lt y (l4 y hy); omega
  obtain ⟨τ2, f2, hE⟩ := m_loop (X := X) (d := d) hx 4000000 W _ fu τ1 vU vU vU z' (MS_0 hx hW hp hI) hpot (by omega) hMMn hr
  have f3 : sm_callM X true (d + 13) 260 [vP (23, 0)] τ1 = rV τ2 := by rw [f_X13_works]; exact f2
  have h56 : τ2.1 23 0 56 = 1 := ((mr_fr (by decide) f3).1 23 0 56 rfl).trans ((G _ _ _ (by omega) (by omega) (by omega) (by omega) (by omega)).trans q56)
  obtain ⟨w, x1, x2, x3, x4, -⟩ := id hE
  have g59 : τ2.1 59 mi k = p.2.1 := (x1.2.2.2 k p hp).2.2.2.2.1
  obtain ⟨σ', s1, s2, s3, s4, s5⟩ := m_run122 (X := X) (d := d + 12) (q0 := k) (p := p) (d1 := vI (Int32.ofNat k)) (d2 := vI a) (d3 := vI b) (d4 := vI (Int32.ofNat fu)) (d5 := vU) (d6 := vU) ok2 hE hp hpt (fun y => by
    obtain ⟨p', q1, q2⟩ := ok4 y
    rw [hp] at q1
    cases q1
    exact q2) h56
  have s1 : sm_go (sm_ZZ X) sm_PP true (sm_callM X true (d + 13)) 283 122 [vP (23, 0), vI (Int32.ofNat k), vI a, vI b, vI (Int32.ofNat fu), vU, vU] [vI (if z'.1 = 0 then p.2.1 else 38)] τ2 = rI z'.1 σ' := s1
  rw [f3, bV_r, x4]
  refine ⟨σ', ?_, s2, s3, s4, by rw [s5]; exact x2⟩
  by_cases y : z'.1 = 0
  · rw [if_pos y] at s1
    rw [if_pos y, x2, rq_t, ix_nat (by omega) (by omega), g59]; exact s1
  · rw [if_neg y] at s1
    rw [if_neg y]; exact s1
end
