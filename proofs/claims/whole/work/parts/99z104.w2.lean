section
/-! THE REFERENCE WRITES CODE -/
variable {X : Nat × (Nat → Int32)} {d : Nat} {s σ : sm_S} {mi N : Nat} {O : Nat → Nat → Nat → Int32} {T : zT} {a b : zA}
def muS (σ : sm_S) (mi n : Nat) (o g pl : Int32) : sm_S := sI (sI (sI (sI (sI σ 63 mi n o) 64 mi n g) 65 mi n 0) 66 mi n pl) 22 mi 6 (Int32.ofNat (n + 1))
theorem m_put0 {n tk : Nat} {o g pl x3 : Int32} (hc : σ.2.2.1 23 0 7 = (22, mi)) (hn : σ.1 22 mi 6 = Int32.ofNat n) (h4 : n < 4000) (hx : (x3 = -1 ∧ pl = -1) ∨ (x3 = Int32.ofNat tk ∧ tk < 803 ∧ pl = σ.1 69 0 tk)) : sm_callM X true (d + 1) 207 [vP (23, 0), vI o, vI g, vI x3] σ = rI (Int32.ofNat n) (muS σ mi n o g pl) := by
  have key : ∀ x, sm_go (sm_ZZ X) sm_PP true (sm_callM X true d) 207 65 [vP (23, 0), vI o, vI g, vI x3, vI (Int32.ofNat n)] [vI x, vI (Int32.ofNat n), vP (66, mi)] (sI (sI (sI σ 63 mi n o) 64 mi n g) 65 mi n 0) = rI (Int32.ofNat n) (muS σ mi n o g x) := by
    intro x
    have hc2 : (sI (sI (sI (sI σ 63 mi n o) 64 mi n g) 65 mi n 0) 66 mi n x).2.2.1 23 0 7 = (22, mi) := hc
    rw [q_X13_put_65, rq_t, ix_nat h4 (by decide), hc2, rq_t, rq_t]
    rw [gI, if_neg (by omega), gI, if_neg (by omega), gI, if_neg (by omega), gI, if_neg (by omega), hn, i_s]
    rfl
  have hc1 : (sI σ 63 mi n o).2.2.1 23 0 7 = (22, mi) := hc
  have hc2 : (sI (sI σ 63 mi n o) 64 mi n g).2.2.1 23 0 7 = (22, mi) := hc
  have hc3 : (sI (sI (sI σ 63 mi n o) 64 mi n g) 65 mi n 0).2.2.1 23 0 7 = (22, mi) := hc
  rw [f_X13_put, q_X13_put_0, hc, rq_t, rq_t, hn, ix_nat h4 (by decide), hc1, rq_t, ix_nat h4 (by decide), hc2, rq_t, ix_nat h4 (by decide), hc3, rq_t]
  rcases hx with ⟨rfl, rfl⟩ | ⟨rfl, h8, rfl⟩
  · rw [if_pos (by decide)]; exact key (-1)
  · rw [if_neg (i_nn (by omega)), ix_nat h8 (by decide), gI, if_neg (by omega), gI, if_neg (by omega), gI, if_neg (by omega)]
    exact key _
theorem MV_put {l : List zI} {e : zI} {o g pl : Int32} (q : MV l mi σ) (hv : vM e.1 = true) (he : e.2.2.1 ≤ l.length) (h1 : o = Int32.ofNat (mOp e)) (h2 : g = mNum l e) (h3 : mSec e = 0) (h4 : pl = e.2.2.2.1) : MV (l ++ [e]) mi (muS σ mi (pos vM l l.length) o g pl) := by
  subst h1 h2 h4
  obtain ⟨a1, a2, a3⟩ := q
  have hn : pos vM (l ++ [e]) (l ++ [e]).length = pos vM l l.length + 1 := by rw [pos_L, if_pos hv]
  have new : pos vM (l ++ [e]) l.length = pos vM l l.length := pos_app (Nat.le_refl _)
  have hl : (l ++ [e]).length = l.length + 1 := by rw [List.length_append]; rfl
  refine ⟨?_, fun k x hk hx => ?_, fun x hx => ?_⟩
  · rw [muS, gI, if_pos ⟨rfl, rfl, rfl⟩, hn]
  · rcases Nat.lt_or_ge k l.length with z | z
    · rw [List.getElem?_append_left z] at hk
      have hp : pos vM (l ++ [e]) k = pos vM l k := pos_app (by omega)
      have hlt : pos vM l k < pos vM l l.length := pos_lt hk hx z
      obtain ⟨b1, b2, b3, b4⟩ := a2 k x hk hx
      have o1 := a3 x (List.mem_of_getElem? hk)
      rw [hp]
      refine ⟨?_, ?_, ?_, ?_⟩
      · rw [muS, gI, if_neg (by omega), gI, if_neg (by omega), gI, if_neg (by omega), gI, if_neg (by omega), gI, if_neg (by omega)]; exact b1
      · rw [muS, gI, if_neg (by omega), gI, if_neg (by omega), gI, if_neg (by omega), gI, if_neg (by omega), gI, if_neg (by omega), b2]
        exact (mNum_c (pos_app o1)).symm
      · rw [muS, gI, if_neg (by omega), gI, if_neg (by omega), gI, if_neg (by omega), gI, if_neg (by omega), gI, if_neg (by omega)]; exact b3
      · rw [muS, gI, if_neg (by omega), gI, if_neg (by omega), gI, if_neg (by omega), gI, if_neg (by omega), gI, if_neg (by omega)]; exact b4
    · have hk2 : k = l.length := by
        have := (List.getElem?_eq_some_iff.mp hk).1
        rw [hl] at this
        omega
      subst hk2
      have hx2 : x = e := by simp at hk; exact hk.symm
      subst hx2
      rw [new]
      refine ⟨?_, ?_, ?_, ?_⟩
      · rw [muS, gI, if_neg (by omega), gI, if_neg (by omega), gI, if_neg (by omega), gI, if_neg (by omega), gI, if_pos ⟨rfl, rfl, rfl⟩]
      · rw [muS, gI, if_neg (by omega), gI, if_neg (by omega), gI, if_neg (by omega), gI, if_pos ⟨rfl, rfl, rfl⟩]
        exact (mNum_c (pos_app he)).symm
      · rw [muS, gI, if_neg (by omega), gI, if_neg (by omega), gI, if_pos ⟨rfl, rfl, rfl⟩, h3]
      · rw [muS, gI, if_neg (by omega), gI, if_pos ⟨rfl, rfl, rfl⟩]
  · rw [hl]
    rcases List.mem_append.mp hx with z | z
    · have := a3 x z; omega
    · rcases List.mem_singleton.mp z with rfl; omega
/-- an item that the reference doesn't see -/
theorem MV_inv {l : List zI} {e : zI} (q : MV l mi σ) (hv : vM e.1 = false) (he : e.2.2.1 ≤ l.length) : MV (l ++ [e]) mi σ := by
  obtain ⟨a1, a2, a3⟩ := q
  have hl : (l ++ [e]).length = l.length + 1 := by rw [List.length_append]; rfl
  refine ⟨?_, fun k x hk hx => ?_, fun x hx => ?_⟩
  · rw [pos_L, if_neg (by rw [hv]; decide)]; exact a1
  · rcases Nat.lt_or_ge k l.length with z | z
    · rw [List.getElem?_append_left z] at hk
      obtain ⟨b1, b2, b3, b4⟩ := a2 k x hk hx
      rw [pos_app (by omega)]
      exact ⟨b1, by rw [b2]; exact (mNum_c (pos_app (a3 x (List.mem_of_getElem? hk)))).symm, b3, b4⟩
    · exfalso
      have hk2 : k = l.length := by
        have := (List.getElem?_eq_some_iff.mp hk).1
        rw [hl] at this
        omega
      subst hk2
      have hx2 : x = e := by simp at hk; exact hk.symm
      subst hx2
      rw [hv] at hx; cases hx
  · rw [hl]
    rcases List.mem_append.mp hx with z | z
    · have := a3 x z; omega
    · rcases List.mem_singleton.mp z with rfl; omega
theorem MX_E {op : Nat} {arg ty pl : Int32} {tgt : Nat} (h : MX T N a σ) : MX T N (zE a op arg tgt ty pl) σ := h
/-- one more item -/
theorem m_em {op tk : Nat} {arg ty pl o g x3 : Int32} {tgt : Nat} (h : PM mi O T N a σ) (hl : zL a < 900) (hv : vM op = true) (ht : tgt ≤ zL a) (ho : o = Int32.ofNat (mOp (op, arg, tgt, pl, ty, gNow a))) (hg : g = mNum (a_i a) (op, arg, tgt, pl, ty, gNow a)) (hs : mSec (op, arg, tgt, pl, ty, gNow a) = 0) (hx : (x3 = -1 ∧ pl = -1) ∨ (x3 = Int32.ofNat tk ∧ tk ≤ N ∧ tk ≤ 801 ∧ pl = T.2.2.2 tk)) :
    ∃ σ', sm_callM X true (d + 1) 207 [vP (23, 0), vI o, vI g, vI x3] σ = rI (Int32.ofNat (pos vM (a_i a) (zL a))) σ' ∧ PM mi O T N (zE a op arg tgt ty pl) σ' := by
  obtain ⟨h1, h2, h3, h4, h5, h6, h7⟩ := h
  have hn : pos vM (a_i a) (zL a) < 900 := Nat.lt_of_le_of_lt pos_le hl
  refine ⟨_, m_put0 (n := pos vM (a_i a) (zL a)) (tk := tk) (pl := pl) h6 h2.1 (by omega) ?_, ?_⟩
  · rcases hx with z | ⟨z1, z2, z3, z4⟩
    · exact Or.inl z
    · exact Or.inr ⟨z1, by omega, by rw [z4]; exact (h1.2.2.1 tk z2).2.1.symm⟩
  · refine ⟨?_, MV_put h2 hv ht ho hg hs rfl, ?_, ?_, ?_, h6, ?_⟩
    · exact MT_o (MT_o (MT_o (MT_o (MT_o h1 (by omega)) (by omega)) (by omega)) (by omega)) (by omega)
    · exact MQp_o (MQp_o (MQp_o (MQp_o (MQp_o (MQp_app h3) (by omega)) (by omega)) (by omega)) (by omega)) (by omega)
    · exact MN_o (MN_o (MN_o (MN_o (MN_o h4 (by omega)) (by omega)) (by omega)) (by omega)) (by omega)
    · exact MX_E (MX_o (MX_o (MX_o (MX_o (MX_o h5 (by omega)) (by omega)) (by omega)) (by omega)) (by omega))
    · exact OM_I (OM_I (OM_I (OM_I (OM_I h7 (fun _ => rfl)) (fun _ => rfl)) (fun _ => rfl)) (fun _ => rfl)) (fun _ => rfl)
theorem m_inv {op : Nat} {arg ty pl : Int32} {tgt : Nat} (h : PM mi O T N a σ) (hv : vM op = false) (ht : tgt ≤ zL a) : PM mi O T N (zE a op arg tgt ty pl) σ := by
  obtain ⟨h1, h2, h3, h4, h5, h6, h7⟩ := h
  exact ⟨h1, MV_inv (e := (op, arg, tgt, pl, ty, gNow a)) h2 hv ht, MQp_app h3, h4, h5, h6, h7⟩
/-! fields of the reader -/
theorem PM_sh {n : Nat} (h : PM mi O T N a σ) : PM mi O T N (aS a n) (sI σ 23 0 20 (Int32.ofNat n)) := by
  obtain ⟨h1, h2, h3, h4, ⟨a1, a2, a3, a4, a5⟩, h6, h7⟩ := h
  refine ⟨MT_o h1 (by omega), MV_o h2 (by omega), MQp_o h3 (by omega), MN_o h4 (by omega), ⟨fun z => by rw [gI, if_neg (by omega)]; exact a1 z, fun z => by rw [gI, if_neg (by omega)]; exact a2 z, fun _ => by rw [gI, if_pos ⟨rfl, rfl, rfl⟩]; rfl, fun z => by rw [gI, if_neg (by decide)]; exact a4 z, fun z => ?_⟩, h6, OM_I h7 (by omega)⟩
  obtain ⟨b1, b2, tk, b3, b4, b5, b6⟩ := a5 z
  exact ⟨by rw [gI, if_neg (by decide)]; exact b1, by rw [gI, if_neg (by decide)]; exact b2, tk, b3, b4, by rw [gI, if_neg (by decide)]; exact b5, b6⟩
theorem PM_op {n : Nat} (h : PM mi O T N a σ) : PM mi O T N (aO a n) (sI σ 23 0 13 (Int32.ofNat n)) := by
  obtain ⟨h1, h2, h3, h4, ⟨a1, a2, a3, a4, a5⟩, h6, h7⟩ := h
  refine ⟨MT_o h1 (by omega), MV_o h2 (by omega), MQp_o h3 (by omega), MN_o h4 (by omega), ⟨fun _ => by rw [gI, if_pos ⟨rfl, rfl, rfl⟩]; rfl, fun z => by rw [gI, if_neg (by decide)]; exact a2 z, fun z => by rw [gI, if_neg (by decide)]; exact a3 z, fun z => by rw [gI, if_neg (by decide)]; exact a4 z, fun z => ?_⟩, h6, OM_I h7 (by omega)⟩
  obtain ⟨b1, b2, tk, b3, b4, b5, b6⟩ := a5 z
  exact ⟨by rw [gI, if_neg (by decide)]; exact b1, by rw [gI, if_neg (by decide)]; exact b2, tk, b3, b4, by rw [gI, if_neg (by decide)]; exact b5, b6⟩
theorem PM_br {n : Nat} (h : PM mi O T N a σ) : PM mi O T N (aR a n) (sI σ 23 0 14 (Int32.ofNat n)) := by
  obtain ⟨h1, h2, h3, h4, ⟨a1, a2, a3, a4, a5⟩, h6, h7⟩ := h
  refine ⟨MT_o h1 (by omega), MV_o h2 (by omega), MQp_o h3 (by omega), MN_o h4 (by omega), ⟨fun z => by rw [gI, if_neg (by decide)]; exact a1 z, fun _ => by rw [gI, if_pos ⟨rfl, rfl, rfl⟩]; rfl, fun z => by rw [gI, if_neg (by decide)]; exact a3 z, fun z => by rw [gI, if_neg (by decide)]; exact a4 z, fun z => ?_⟩, h6, OM_I h7 (by omega)⟩
  obtain ⟨b1, b2, tk, b3, b4, b5, b6⟩ := a5 z
  exact ⟨by rw [gI, if_neg (by decide)]; exact b1, by rw [gI, if_neg (by decide)]; exact b2, tk, b3, b4, by rw [gI, if_neg (by decide)]; exact b5, b6⟩
theorem PM_w0 (h : PM mi O T N a σ) : PM mi O T N (aW a (0, 0, 0, 0)) (sI σ 23 0 21 0) := by
  obtain ⟨h1, h2, h3, h4, ⟨a1, a2, a3, a4, a5⟩, h6, h7⟩ := h
  refine ⟨MT_o h1 (by omega), MV_o h2 (by omega), MQp_o h3 (by omega), MN_o h4 (by omega), ⟨fun z => by rw [gI, if_neg (by decide)]; exact a1 z, fun z => by rw [gI, if_neg (by decide)]; exact a2 z, fun z => by rw [gI, if_neg (by decide)]; exact a3 z, fun _ => by rw [gI, if_pos ⟨rfl, rfl, rfl⟩], fun z => ?_⟩, h6, OM_I h7 (by omega)⟩
  exfalso
  have z : (0 : Nat) = 5 ∨ (0 : Nat) = 15 ∨ (0 : Nat) = 17 := z
  omega
theorem PM_o (h : PM mi O T N a σ) (ho : a_o a ≤ 10) : σ.1 23 0 13 = Int32.ofNat (a_o a) := h.2.2.2.2.1.1 ho
theorem PM_r (h : PM mi O T N a σ) (ho : a_r a ≤ 8) : σ.1 23 0 14 = Int32.ofNat (a_r a) := h.2.2.2.2.1.2.1 ho
/-- a sign must be there -/
theorem m_must {c : Int32} (hT : TK T N) (h : PM mi O T N a σ) (hc : mkd c = 4 ∧ c ≠ 1 ∧ c ≠ 2 ∧ c ≠ 300 ∧ c ≠ 301) : SMV mi O T N (sm_callM X true (d + 3) 206 [vP (23, 0), vI c] σ) (zMust T c a) := by
  rw [f_X13_must, q_X13_must_0, m_is h hc, bI_r]
  have e0 : zMust T c a = pb (if T.1 (a_p a) = c then .inr (0, a) else .inl (1, a_p a)) (fun _ a1 => pb (zN a1) (fun _ a2 => .inr (0, a2))) := by
    unfold zMust
    by_cases q : T.1 (a_p a) = c
    · rw [if_pos q, if_pos q]
      show zN a = pb (zN a) (fun _ a2 => .inr (0, a2))
      unfold zN; split <;> rfl
    · rw [if_neg q, if_neg q]; rfl
  rw [e0]
  refine mbVV (m_form (d := d) (c := T.1 (a_p a) = c) h ?_) (fun _ a1 σ1 e1 h1 => ?_)
  · by_cases q : T.1 (a_p a) = c
    · rw [if_pos q]; exact ⟨fun z => absurd z (by decide), fun z => absurd q z⟩
    · rw [if_neg q]; exact ⟨fun _ => q, fun _ => rfl⟩
  · rw [it_l] at e1
    obtain ⟨q, e1⟩ := e1
    cases e1
    have hk : T.1 (a_p a) ≠ 6 ∧ T.1 (a_p a) ≠ 7 := by
      rw [q]
      refine ⟨fun z => ?_, fun z => ?_⟩ <;> (rw [z] at hc; exact absurd hc.1 (by decide))
    refine mbVV (m_next (d := d) hT h1 hk.1 hk.2) (fun _ a2 σ2 e2 h2 => ⟨_, rfl, h2⟩)
theorem m_opens {c : Int32} (hT : TK T N) (h : PM mi O T N a σ) (hc : mkd c = 4 ∧ c ≠ 1 ∧ c ≠ 2 ∧ c ≠ 300 ∧ c ≠ 301) (ho : a_o a ≤ 10) : SMV mi O T N (sm_callM X true (d + 3) 229 [vP (23, 0), vI c] σ) (zOpens T c a) := by
  rw [f_X13_opens, q_X13_opens_0, m_is h hc, bI_r]
  have e0 : zOpens T c a = pb (if T.1 (a_p a) = c ∧ a_o a < 10 then .inr (0, a) else .inl (1, a_p a)) (fun _ a1 => pb (zN (aO a1 (a_o a1 + 1))) (fun _ a2 => .inr (0, a2))) := by
    unfold zOpens
    by_cases q : T.1 (a_p a) = c ∧ a_o a < 10
    · rw [if_pos q, if_pos q]
      show zN (aO a (a_o a + 1)) = pb (zN (aO a (a_o a + 1))) (fun _ a2 => .inr (0, a2))
      unfold zN; split <;> rfl
    · rw [if_neg q, if_neg q]; rfl
  have key : ∀ x : Int32, (x = 0 ↔ ¬ (T.1 (a_p a) = c ∧ a_o a < 10)) → SMV mi O T N (sm_go (sm_ZZ X) sm_PP true (sm_callM X true (d + 2)) 229 23 [vP (23, 0), vI c] [vI x, vP (23, 0)] σ) (zOpens T c a) := by
    intro x hx
    rw [q_X13_opens_23, if_pos rfl, e0]
    refine mbVV (m_form (d := d) (c := T.1 (a_p a) = c ∧ a_o a < 10) h hx) (fun _ a1 σ1 e1 h1 => ?_)
    rw [it_l] at e1
    obtain ⟨q, e1⟩ := e1
    cases e1
    have hk : T.1 (a_p a) ≠ 6 ∧ T.1 (a_p a) ≠ 7 := by
      rw [q.1]
      refine ⟨fun z => ?_, fun z => ?_⟩ <;> (rw [z] at hc; exact absurd hc.1 (by decide))
    rw [PM_o h1 ho, i_s]
    exact mbVV (m_next (d := d) hT (PM_op h1) hk.1 hk.2) (fun _ a2 σ2 e2 h2 => ⟨_, rfl, h2⟩)
  by_cases q : T.1 (a_p a) = c
  · rw [if_pos q, if_neg (by decide), PM_o h ho]
    by_cases q2 : a_o a < 10
    · rw [if_pos (show Int32.ofNat (a_o a) < 10 from (i_lt (b := 10) (by omega) (by decide)).mpr q2)]
      exact key 1 ⟨fun z => absurd z (by decide), fun z => absurd ⟨q, q2⟩ z⟩
    · rw [if_neg (fun z : Int32.ofNat (a_o a) < 10 => q2 ((i_lt (b := 10) (by omega) (by decide)).mp z))]
      exact key 0 ⟨fun _ z => q2 z.2, fun _ => rfl⟩
  · rw [if_neg q, if_pos rfl]
    exact key 0 ⟨fun _ z => q z.1, fun _ => rfl⟩
/-- what waits is read -/
theorem m_reads (h : PM mi O T N a σ) (hl : zL a < 900) (hw : (a_w a).1 = 0 ∨ (a_w a).1 = 5 ∨ ((a_w a).1 = 15 ∧ (a_w a).2.1 = 0) ∨ (a_w a).1 = 17) : ∃ σ', sm_callM X true (d + 2) 227 [vP (23, 0)] σ = rV σ' ∧ PM mi O T N (zReads a) σ' := by
  rw [f_X13_reads, q_X13_reads_0]
  by_cases q0 : (a_w a).1 = 0
  · rw [h.2.2.2.2.1.2.2.2.1 q0, if_neg (by decide), if_neg (by decide), if_neg (by decide)]
    have : zReads a = aW a (0, 0, 0, 0) := by unfold zReads; rw [if_neg (by omega)]
    rw [this]
    exact ⟨_, rfl, PM_w0 h⟩
  · have hc : (a_w a).1 = 5 ∨ (a_w a).1 = 15 ∨ (a_w a).1 = 17 := by omega
    have e0 : zReads a = aW (zE a (a_w a).1 (a_w a).2.1 0 (a_w a).2.2.2 (a_w a).2.2.1) (0, 0, 0, 0) := by unfold zReads; rw [if_pos hc]
    obtain ⟨b1, b2, tk, b3, b4, b5, b6⟩ := h.2.2.2.2.1.2.2.2.2 hc
    rw [e0, b1, b2, b5]
    have k5 : (a_w a).1 = 5 ∨ ((a_w a).1 = 15 ∧ (a_w a).2.1 = 0) ∨ (a_w a).1 = 17 := hw.resolve_left q0
    rcases k5 with z | ⟨z, z0⟩ | z
    · rw [z, if_pos (show Int32.ofNat (wCd 5) = 1 from rfl)]
      obtain ⟨σ1, e1, h1⟩ := m_em (X := X) (d := d) (op := 5) (tk := tk) (arg := (a_w a).2.1) (ty := (a_w a).2.2.2) (pl := (a_w a).2.2.1) (tgt := 0) (o := 1) (g := (a_w a).2.1) (x3 := Int32.ofNat tk) h hl rfl (Nat.zero_le _) rfl rfl rfl (Or.inr ⟨rfl, b3, by omega, b6.symm⟩)
      rw [e1, bI_r]
      exact ⟨_, rfl, PM_w0 h1⟩
    · rw [z, z0, if_neg (by decide), if_pos (show Int32.ofNat (wCd 15) = 2 from rfl)]
      obtain ⟨σ1, e1, h1⟩ := m_em (X := X) (d := d) (op := 15) (tk := tk) (arg := 0) (ty := (a_w a).2.2.2) (pl := (a_w a).2.2.1) (tgt := 0) (o := 3) (g := 0) (x3 := Int32.ofNat tk) h hl rfl (Nat.zero_le _) rfl rfl rfl (Or.inr ⟨rfl, b3, by omega, b6.symm⟩)
      rw [e1, bI_r]
      exact ⟨_, rfl, PM_w0 h1⟩
    · rw [z, if_neg (by decide), if_neg (by decide), if_pos (show Int32.ofNat (wCd 17) = 3 from rfl)]
      obtain ⟨σ1, e1, h1⟩ := m_em (X := X) (d := d) (op := 17) (tk := tk) (arg := (a_w a).2.1) (ty := (a_w a).2.2.2) (pl := (a_w a).2.2.1) (tgt := 0) (o := 5) (g := (a_w a).2.1) (x3 := Int32.ofNat tk) h hl rfl (Nat.zero_le _) rfl rfl rfl (Or.inr ⟨rfl, b3, by omega, b6.symm⟩)
      rw [e1, bI_r]
      exact ⟨_, rfl, PM_w0 h1⟩
/-- what is read now waits: 1 a name, 2 a place, 3 a field -/
theorem m_waits {n tk op : Nat} {x ty : Int32} (h : PM mi O T N a σ) (hn : (n = 1 ∧ op = 5) ∨ (n = 2 ∧ op = 15) ∨ (n = 3 ∧ op = 17)) (ht : tk ≤ N) (ht8 : tk ≤ 800) : ∃ σ', sm_callM X true (d + 1) 226 [vP (23, 0), vI (Int32.ofNat n), vI x, vI (Int32.ofNat tk)] σ = rV σ' ∧ PM mi O T N (aW (aS a n) (op, x, T.2.2.2 tk, ty)) σ' ∧ σ'.1 72 = σ.1 72 := by
  rw [f_X13_waits, q_X13_waits_0]
  obtain ⟨h1, h2, h3, h4, ⟨a1, a2, a3, a4, a5⟩, h6, h7⟩ := h
  refine ⟨_, rfl, ⟨MT_o (MT_o (MT_o (MT_o h1 (by omega)) (by omega)) (by omega)) (by omega), MV_o (MV_o (MV_o (MV_o h2 (by omega)) (by omega)) (by omega)) (by omega), MQp_o (MQp_o (MQp_o (MQp_o h3 (by omega)) (by omega)) (by omega)) (by omega), MN_o (MN_o (MN_o (MN_o h4 (by omega)) (by omega)) (by omega)) (by omega), ⟨fun z => ?_, fun z => ?_, fun _ => ?_, fun z => ?_, fun z => ⟨?_, ?_, tk, ht, ht8, ?_, rfl⟩⟩, h6, OM_I (OM_I (OM_I (OM_I h7 (by omega)) (by omega)) (by omega)) (by omega)⟩, rfl⟩
  · rw [gI, if_neg (by decide), gI, if_neg (by decide), gI, if_neg (by decide), gI, if_neg (by decide)]; exact a1 z
  · rw [gI, if_neg (by decide), gI, if_neg (by decide), gI, if_neg (by decide), gI, if_neg (by decide)]; exact a2 z
  · rw [gI, if_neg (by decide), gI, if_neg (by decide), gI, if_neg (by decide), gI, if_pos ⟨rfl, rfl, rfl⟩]; rfl
  · exfalso
    have z : op = 0 := z
    omega
  · rw [gI, if_neg (by decide), gI, if_neg (by decide), gI, if_pos ⟨rfl, rfl, rfl⟩]
    show Int32.ofNat n = Int32.ofNat (wCd op)
    rcases hn with ⟨rfl, rfl⟩ | ⟨rfl, rfl⟩ | ⟨rfl, rfl⟩ <;> rfl
  · rw [gI, if_neg (by decide), gI, if_pos ⟨rfl, rfl, rfl⟩]; rfl
  · rw [gI, if_pos ⟨rfl, rfl, rfl⟩]
end
