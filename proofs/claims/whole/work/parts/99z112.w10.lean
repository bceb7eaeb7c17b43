section
/-! IF, WHILE, TRY AND BLOCKS IN THE REFERENCE -/
variable {X : Nat × (Nat → Int32)} {d : Nat} {s σ : sm_S} {mi N : Nat} {O : Nat → Nat → Nat → Int32} {T : zT} {a b : zA} {t : Int32} {blk : zA → zR}
def BM (X : Nat × (Nat → Int32)) (d mi : Nat) (O : Nat → Nat → Nat → Int32) (T : zT) (N : Nat) (blk : zA → zR) (r : Nat) : Prop := ∀ e a σ, SM mi O T N a σ → a_r a = r → SMV mi O T N (sm_callM X true (d + e) 217 [vP (23, 0)] σ) (blk a)
theorem BM_le {r n : Nat} (h : BM X d mi O T N blk r) : BM X (d + n) mi O T N blk r := fun e a σ => by
  rw [Nat.add_assoc]; exact h (n + e) a σ
theorem SM_D {n : Nat} {a1 : zA} {σ1 : sm_S} (hb : zL a ≤ a_p a) (hq : tyQ a) (hne : a_q a ≠ []) (hd : Dst n a a1) (h1 : PM mi O T N a1 σ1) (i1 : In0 tyOk a1) : SM mi O T N a1 σ1 := by
  obtain ⟨g1, g2, g3, g4, g5, g6, g7, -⟩ := hd
  exact ⟨h1, i1, by omega, by unfold tyQ; rw [g7]; exact hq, by rw [g7]; exact hne⟩
theorem ix4 {n : Nat} {f : Nat → sm_R} (h : n < 900) : sm_ix (Int32.ofNat n) 4000 f = f n := ix_nat (by omega) (by decide)
theorem m_if {r : Nat} (hT : TK T N) (hE1 : HM X d mi O T N (zX_ T 10) 1) (hB : BM X d mi O T N blk r) (hD : SubB tyOk blk) (hS : SM mi O T N a σ) (hk : T.1 (a_p a) = 202) (ho : a_o a = 0) (hr : a_r a = r) : SMV mi O T N (sm_callM X true (d + 21) 221 [vP (23, 0), vI (Int32.ofNat (a_p a))] σ) (zIf T blk a) := by
  obtain ⟨h, hi, hb, hq, hne⟩ := hS
  have hty := tyA_of hi hq
  rw [f_X13_chooses, q_X13_chooses_0]
  unfold zIf
  refine mbJV (m_asks hT hE1 h (by rw [hk]; decide) (by rw [hk]; decide) ho hb hty h.1.2.1 (PM_len h)) (fun y1 a1 σ1 e1 h1 => ?_)
  obtain ⟨d1, i1, -, hcon⟩ := D_cond (PM_len h) hi e1
  have S1 := SM_D hb hq hne d1 h1 i1
  have r1 : a_r a1 = r := d1.2.2.2.2.2.2.2.2.2.1.trans hr
  refine mbVV (hB 20 a1 σ1 S1 r1) (fun _ a2 σ2 e2 h2 => ?_)
  obtain ⟨d2, i2, k2⟩ := hD a1 _ a2 (PM_len h1) i1 e2
  obtain ⟨g0, q1, q2, q3, q4⟩ := con_at hcon d2.2.2.2.1
  have S2 := SM_D S1.2.2.1 S1.2.2.2.1 S1.2.2.2.2 d2 h2 i2
  have l2 : zL a2 < 900 := len_m h2 S2.2.2.1
  have le12 : zL a1 ≤ zL a2 := d2.2.2.2.1.length_le
  have P12 : pos vM (a_i a1) (zL a1 - 1) = pos vM (a_i a2) (zL a1 - 1) := (pos_pre d2.2.2.2.1 (by unfold zL; omega)).symm
  have p9 : pos vM (a_i a1) (zL a1 - 1) < 900 := by have : pos vM (a_i a1) (zL a1 - 1) ≤ zL a1 - 1 := pos_le; omega
  rw [m_w (j := 3) (c := 203) (w := 3) h2 (by omega) (by decide) rfl, bI_r]
  by_cases k : T.1 (a_p a2) = 203
  · rw [if_pos k, if_neg (by decide), if_pos k]
    refine meV (d := d + 19) (op := 0) (tk := 0) (arg := 0) (ty := 0) (pl := -1) (tgt := 0) h2 l2 rfl (Nat.zero_le _) rfl rfl rfl (Or.inl ⟨rfl, rfl⟩) (fun σ3 h3 => ?_)
    have z3 : zL (zE a2 0 0 0 0 (-1)) = zL a2 + 1 := zL_E
    have pre3 : a_i a2 <+: a_i (zE a2 0 0 0 0 (-1)) := Pre_E (a := a2)
    have P13 : pos vM (a_i a1) (zL a1 - 1) = pos vM (a_i (zE a2 0 0 0 0 (-1))) (zL a1 - 1) := P12.trans (pos_pre pre3 (by show zL a1 - 1 ≤ zL a2; omega)).symm
    have h4 := PM_aim (k := zL a1 - 1) h3 (get_pre pre3 q2) (Or.inr rfl)
    rw [z3, ← P13] at h4
    rw [PM_cd h3, rq_t, rq_t, ix4 p9]
    refine mnV (d := d + 18) hT h4 (by show T.1 (a_p a2) ≠ 6; rw [k]; decide) (by show T.1 (a_p a2) ≠ 7; rw [k]; decide) (fun σ5 n5 h5 => ?_)
    have p5 : a_p (aP (zX (zE a2 0 0 0 0 (-1)) (zL a1 - 1) (zL a2 + 1)) (a_p (zX (zE a2 0 0 0 0 (-1)) (zL a1 - 1) (zL a2 + 1)) + 1)) = a_p a2 + 1 := rfl
    have z5 : zL (aP (zX (zE a2 0 0 0 0 (-1)) (zL a1 - 1) (zL a2 + 1)) (a_p (zX (zE a2 0 0 0 0 (-1)) (zL a1 - 1) (zL a2 + 1)) + 1)) = zL a2 + 1 := by
      rw [← z3]; exact zL_mod (b := zE a2 0 0 0 0 (-1)) rfl
    have i5 : In0 tyOk (aP (zX (zE a2 0 0 0 0 (-1)) (zL a1 - 1) (zL a2 + 1)) (a_p (zX (zE a2 0 0 0 0 (-1)) (zL a1 - 1) (zL a2 + 1)) + 1)) := i2
    have qq5 : a_q (aP (zX (zE a2 0 0 0 0 (-1)) (zL a1 - 1) (zL a2 + 1)) (a_p (zX (zE a2 0 0 0 0 (-1)) (zL a1 - 1) (zL a2 + 1)) + 1)) = a_q a2 := rfl
    have rr5 : a_r (aP (zX (zE a2 0 0 0 0 (-1)) (zL a1 - 1) (zL a2 + 1)) (a_p (zX (zE a2 0 0 0 0 (-1)) (zL a1 - 1) (zL a2 + 1)) + 1)) = a_r a2 := rfl
    have at5 : (a_i (aP (zX (zE a2 0 0 0 0 (-1)) (zL a1 - 1) (zL a2 + 1)) (a_p (zX (zE a2 0 0 0 0 (-1)) (zL a1 - 1) (zL a2 + 1)) + 1)))[zL a2]? = some (0, 0, 0, -1, 0, gNow a2) := by
      show ((a_i (zE a2 0 0 0 0 (-1))).modify (zL a1 - 1) _)[zL a2]? = _
      rw [List.getElem?_modify]
      have : (a_i (zE a2 0 0 0 0 (-1)))[zL a2]? = some (0, 0, 0, -1, 0, gNow a2) := by
        show (a_i a2 ++ _)[(a_i a2).length]? = _
        simp
      rw [this]
      have hlt : ¬ zL a1 - 1 = zL a2 := by omega
      simp [hlt]
    have pz5 : pos vM (a_i (aP (zX (zE a2 0 0 0 0 (-1)) (zL a1 - 1) (zL a2 + 1)) (a_p (zX (zE a2 0 0 0 0 (-1)) (zL a1 - 1) (zL a2 + 1)) + 1))) (zL a2) = pos vM (a_i a2) (zL a2) := by
      show pos vM ((a_i (zE a2 0 0 0 0 (-1))).modify (zL a1 - 1) _) (zL a2) = _
      refine (pos_mod (f := fun e : zI => (e.1, e.2.1, zL a2 + 1, e.2.2.2)) (fun _ => rfl)).trans ?_
      exact pos_pre pre3 (Nat.le_refl _)
    generalize aP (zX (zE a2 0 0 0 0 (-1)) (zL a1 - 1) (zL a2 + 1)) (a_p (zX (zE a2 0 0 0 0 (-1)) (zL a1 - 1) (zL a2 + 1)) + 1) = x5 at *
    have S5 : SM mi O T N x5 σ5 := ⟨h5, i5, by have := S2.2.2.1; omega, by unfold tyQ; rw [qq5]; exact S2.2.2.2.1, by rw [qq5]; exact S2.2.2.2.2⟩
    refine mbVV (hB 20 x5 σ5 S5 (rr5.trans (d2.2.2.2.2.2.2.2.2.2.1.trans r1))) (fun _ a6 σ6 e6 h6 => ?_)
    obtain ⟨d6, i6, k6⟩ := hD x5 _ a6 (PM_len h5) i5 e6
    have S6 := SM_D S5.2.2.1 S5.2.2.2.1 S5.2.2.2.2 d6 h6 i6
    have h7 := PM_aim (k := zL a2) h6 (get_pre d6.2.2.2.1 at5) (Or.inl rfl)
    have pz6 : pos vM (a_i a6) (zL a2) = pos vM (a_i a2) (zL a2) := (pos_pre d6.2.2.2.1 (by show zL a2 ≤ zL x5; omega)).trans pz5
    rw [pz6] at h7
    have p92 : pos vM (a_i a2) (zL a2) < 900 := by have : pos vM (a_i a2) (zL a2) ≤ zL a2 := pos_le; omega
    rw [PM_cd h6, rq_t, rq_t, ix4 p92]
    exact ⟨_, rfl, h7⟩
  · rw [if_neg k, if_pos rfl, if_neg k, PM_cd h2, rq_t, rq_t, ix4 p9]
    have h4 := PM_aim (k := zL a1 - 1) h2 q2 (Or.inr rfl)
    rw [← P12] at h4
    exact ⟨_, rfl, h4⟩
theorem mNum_0 {l : List zI} {g pl ty : Int32} {tgt : Nat} {G : zG} : mNum l (0, g, tgt, pl, ty, G) = Int32.ofNat (pos vM l tgt) := rfl
theorem m_while {r : Nat} (hT : TK T N) (hE1 : HM X d mi O T N (zX_ T 10) 1) (hB : BM X d mi O T N blk r) (hD : SubB tyOk blk) (hS : SM mi O T N a σ) (hk : T.1 (a_p a) = 204) (ho : a_o a = 0) (hr : a_r a = r) : SMV mi O T N (sm_callM X true (d + 21) 222 [vP (23, 0), vI (Int32.ofNat (a_p a))] σ) (zWhile T blk a) := by
  obtain ⟨h, hi, hb, hq, hne⟩ := hS
  have hty := tyA_of hi hq
  rw [f_X13_repeats, q_X13_repeats_0, PM_cd h, rq_t]
  unfold zWhile
  refine mbJV (m_asks hT hE1 h (by rw [hk]; decide) (by rw [hk]; decide) ho hb hty h.1.2.1 (PM_len h)) (fun y1 a1 σ1 e1 h1 => ?_)
  obtain ⟨d1, i1, -, hcon⟩ := D_cond (PM_len h) hi e1
  have S1 := SM_D hb hq hne d1 h1 i1
  have r1 : a_r a1 = r := d1.2.2.2.2.2.2.2.2.2.1.trans hr
  refine mbVV (hB 20 a1 σ1 S1 r1) (fun _ a2 σ2 e2 h2 => ?_)
  obtain ⟨d2, i2, k2⟩ := hD a1 _ a2 (PM_len h1) i1 e2
  obtain ⟨g0, q1, q2, q3, q4⟩ := con_at hcon d2.2.2.2.1
  have S2 := SM_D S1.2.2.1 S1.2.2.2.1 S1.2.2.2.2 d2 h2 i2
  have l2 : zL a2 < 900 := len_m h2 S2.2.2.1
  have le12 : zL a1 ≤ zL a2 := d2.2.2.2.1.length_le
  have P12 : pos vM (a_i a1) (zL a1 - 1) = pos vM (a_i a2) (zL a1 - 1) := (pos_pre d2.2.2.2.1 (by unfold zL; omega)).symm
  have p9 : pos vM (a_i a1) (zL a1 - 1) < 900 := by have : pos vM (a_i a1) (zL a1 - 1) ≤ zL a1 - 1 := pos_le; omega
  have pre02 : Pre a a2 := d1.2.2.2.1.trans d2.2.2.2.1
  have le02 : zL a ≤ zL a2 := pre02.length_le
  refine meV (d := d + 19) (op := 0) (tk := 0) (arg := 0) (ty := 0) (pl := -1) (tgt := zL a) h2 l2 rfl le02 rfl (by rw [mNum_0, h.2.1.1]; exact congrArg Int32.ofNat (pos_pre pre02 (Nat.le_refl _)).symm) rfl (Or.inl ⟨rfl, rfl⟩) (fun σ3 h3 => ?_)
  have z3 : zL (zE a2 0 0 (zL a) 0 (-1)) = zL a2 + 1 := zL_E
  have pre3 : a_i a2 <+: a_i (zE a2 0 0 (zL a) 0 (-1)) := Pre_E (a := a2)
  have P13 : pos vM (a_i a1) (zL a1 - 1) = pos vM (a_i (zE a2 0 0 (zL a) 0 (-1))) (zL a1 - 1) := P12.trans (pos_pre pre3 (by show zL a1 - 1 ≤ zL a2; omega)).symm
  have h4 := PM_aim (k := zL a1 - 1) h3 (get_pre pre3 q2) (Or.inr rfl)
  rw [z3, ← P13] at h4
  rw [PM_cd h3, rq_t, rq_t, ix4 p9]
  exact ⟨_, rfl, h4⟩
/-- a try's catch is told -/
theorem PM_cat {k j sl : Nat} {e : zI} (h : PM mi O T N a σ) (hk : (a_i a)[k]? = some e) (he : e.1 = 33) : PM mi O T N (zCat k j (zL a) sl a) (sI (sI σ 64 mi (pos vM (a_i a) k) (σ.1 22 mi 6)) 65 mi (pos vM (a_i a) k) (Int32.ofNat sl)) := by
  obtain ⟨h1, h2, h3, h4, h5, h6, h7⟩ := h
  have hve : vM e.1 = true := by rw [he]; rfl
  obtain ⟨b1, b2, b3, b4⟩ := h2.2.1 k e hk hve
  refine ⟨MT_o (MT_o h1 (by omega)) (by omega), ?_, MQp_o (MQp_o (MQp_mod (fun _ => rfl) h3) (by omega)) (by omega), MN_o (MN_o h4 (by omega)) (by omega), MX_o (a := a) (MX_o h5 (by omega)) (by omega), h6, OM_I (OM_I h7 (fun _ => rfl)) (fun _ => rfl)⟩
  refine MV_mod (f := fun e => (e.1, Int32.ofNat sl, zL a, e.2.2.2)) h2 hk (fun _ => rfl) hve (Nat.le_refl _) (by rw [gI, if_neg (by omega), gI, if_neg (by omega)]) ⟨?_, ?_, ?_, ?_⟩ (fun n hn => ⟨?_, ?_, ?_, ?_⟩)
  · rw [gI, if_neg (by omega), gI, if_neg (by omega), b1]
    obtain ⟨o, e'⟩ := e
    have z : o = 33 := he
    subst z; rfl
  · rw [gI, if_neg (by omega), gI, if_pos ⟨rfl, rfl, rfl⟩, h2.1]
    obtain ⟨o, e'⟩ := e
    have z : o = 33 := he
    subst z; rfl
  · rw [gI, if_pos ⟨rfl, rfl, rfl⟩]
    obtain ⟨o, e'⟩ := e
    have z : o = 33 := he
    subst z; rfl
  · rw [gI, if_neg (by omega), gI, if_neg (by omega)]; exact b4
  · rw [gI, if_neg (by omega), gI, if_neg (by omega)]
  · rw [gI, if_neg (by omega), gI, if_neg (by omega)]
  · rw [gI, if_neg (by omega), gI, if_neg (by omega)]
  · rw [gI, if_neg (by omega), gI, if_neg (by omega)]
end
