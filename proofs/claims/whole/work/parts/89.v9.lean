section
/-! NAMES AND PROCS IN THE CLASS -/
variable {X : Nat × (Nat → Int32)} {d : Nat} {s σ : sm_S} {ci N : Nat} {O : Nat → Nat → Nat → Int32} {T : zT} {a b : zA}
theorem PC_pn {kn : List (List Int32 × Int32 × Nat)} {m : Nat} {x : Option (List Int32 × Int32)} {σ' : sm_S} (h : PC ci O T N a σ) (hp : PT T N (a_p a) σ') (hcv : CV (zIW a) (a_c a) (a_h a) ci σ') (hq : PQ (zIW a) (a_q a) ci σ') (hci : CI ci O σ') (h5 : σ'.1 15 0 4 = σ.1 15 0 4) (hn : PN kn m x σ') (hb : b = aX (aM (aK a kn) m) x) (hw : wN a = 0) : PC ci O T N b σ' := by
  subst hb
  refine ⟨hp, ?_⟩
  unfold PR
  have hw' : wN (aX (aM (aK a kn) m) x) = 0 := hw
  rw [zIW_0 hw] at hcv hq
  rw [zIW_0 hw']
  exact ⟨hcv, hq, hn, hci, fun z => by rw [h5]; exact h.2.2.2.2.2 z⟩
theorem c_nclear (h : PC ci O T N a σ) (hx : a_x a = none) (hw : wN a = 0) : ∃ σ', sm_callM X true (d + 1) 73 [vP (14, 0)] σ = rV σ' ∧ PC ci O T N (aM (aK a []) 0) σ' := by
  have e1 : sm_callM X true (d + 1) 73 [vP (14, 0)] σ = rV (sI (sI σ 14 0 3 0) 14 0 4 0) := by rw [f_X4_clear, q_X4_clear_0]
  refine ⟨_, e1, ?_⟩
  obtain ⟨σ', e2, c2, -⟩ := ci_nclear (X := X) (d := d) h.2.2.2.2.1
  rw [e1] at e2
  rw [← rV_inj e2] at c2
  refine PC_pn h (PT_o (PT_o h.1 (by omega) (by omega) (by omega) (by omega)) (by omega) (by omega) (by omega) (by omega)) (CV_o (CV_o h.2.1 (by omega) (by omega) (by omega) (by omega) (by omega) (by omega)) (by omega) (by omega) (by omega) (by omega) (by omega) (by omega)) (PQ_o (PQ_o h.2.2.1 (by omega) (by omega) (by omega) (by omega) (by omega)) (by omega) (by omega) (by omega) (by omega) (by omega)) c2 (by rw [gI, if_neg (by omega), gI, if_neg (by omega)]) (kn := []) (m := 0) (x := a_x a) ?_ rfl hw
  rw [hx]
  refine ⟨?_, ?_, Nat.zero_le _, Nat.le_refl _, fun j e hj => (by cases hj), fun n t hx => (by cases hx)⟩
  · rw [gI, if_neg (by omega), gI, if_pos ⟨rfl, rfl, rfl⟩]; rfl
  · rw [gI, if_pos ⟨rfl, rfl, rfl⟩]; rfl
theorem c_make {n : List Int32} {t : Int32} (h : PC ci O T N a σ) (hx : a_x a = none) (hm : a_m a < 24) (hn : nmOk n) (hw : wN a = 0) : ∃ σ', sm_callM X true (d + 2) 75 [vP (14, 0), vL (pk7 n 0), vI t] σ = rI (Int32.ofNat (a_m a)) σ' ∧ PC ci O T N (aX a (some (n, t))) σ' := by
  obtain ⟨a1, a2, a3, a4, a5, a6⟩ := h.2.2.2.1
  rw [hx] at a1 a3
  have a1 : σ.1 14 0 3 = Int32.ofNat (a_m a) := a1
  have e1 : sm_callM X true (d + 2) 75 [vP (14, 0), vL (pk7 n 0), vI t] σ = rI (Int32.ofNat (a_m a)) (sI (sI (sL σ 47 0 (a_m a) (pk7 n 0)) 48 0 (a_m a) t) 14 0 3 (Int32.ofNat (a_m a + 1))) := by
    rw [f_X4_make, q_X4_make_0, c_isFull a1 (by omega), bI_r, if_pos hm, if_pos rfl, a1, ix_nat hm (by decide), show (sL σ 47 0 (a_m a) (pk7 n 0)).1 14 0 3 = Int32.ofNat (a_m a) from a1, ix_nat hm (by decide), show (sI (sL σ 47 0 (a_m a) (pk7 n 0)) 48 0 (a_m a) t).1 14 0 3 = Int32.ofNat (a_m a) by rw [gI, if_neg (by omega)]; exact a1, i_s, gI, if_pos ⟨rfl, rfl, rfl⟩, i_pred]
  refine ⟨_, e1, ?_⟩
  obtain ⟨k, σ', -, e2, c2, -⟩ := ci_make (X := X) (d := d) (pk7 n 0) t h.2.2.2.2.1
  rw [e1] at e2
  rw [← (rI_inj e2).2] at c2
  refine PC_pn h (PT_o (PT_o (PT_L h.1 (by omega) (by omega)) (by omega) (by omega) (by omega) (by omega)) (by omega) (by omega) (by omega) (by omega)) (CV_o (CV_o (CV_L h.2.1) (by omega) (by omega) (by omega) (by omega) (by omega) (by omega)) (by omega) (by omega) (by omega) (by omega) (by omega) (by omega)) (PQ_o (PQ_o (PQ_L h.2.2.1 (by omega)) (by omega) (by omega) (by omega) (by omega) (by omega)) (by omega) (by omega) (by omega) (by omega) (by omega)) c2 (by rw [gI, if_neg (by omega), gI, if_neg (by omega), gLI]) (kn := a_k a) (m := a_m a) (x := some (n, t)) ?_ rfl hw
  refine ⟨?_, ?_, hm, a4, fun j e hj => ?_, fun n' t' hx' => ?_⟩
  · rw [gI, if_pos ⟨rfl, rfl, rfl⟩]; rfl
  · rw [gI, if_neg (by omega), gI, if_neg (by omega), gLI]; exact a2
  · obtain ⟨b1, b2, b3, b4, b5⟩ := a5 j e hj
    refine ⟨?_, ?_, ?_, b4, b5⟩
    · rw [gI, if_neg (by omega), gI, if_neg (by omega), gLI]; exact b1
    · rw [gIL, gIL]
      show (sL σ 47 0 (a_m a) (pk7 n 0)).2.1 47 0 e.2.2 = _
      rw [gL, if_neg (by omega)]; exact b2
    · rw [gI, if_neg (by omega), gI, if_neg (by omega), gLI]; exact b3
  · cases hx'
    refine ⟨?_, ?_, hn⟩
    · rw [gIL, gIL]
      show (sL σ 47 0 (a_m a) (pk7 n 0)).2.1 47 0 (a_m a) = _
      rw [gL, if_pos ⟨rfl, rfl, rfl⟩]
    · rw [gI, if_neg (by omega), gI, if_pos ⟨rfl, rfl, rfl⟩]
theorem c_know {n : List Int32} {t : Int32} (h : PC ci O T N a σ) (hx : a_x a = some (n, t)) (hw : wN a = 0) : ∃ σ', sm_callM X true (d + 1) 76 [vP (14, 0), vI (Int32.ofNat (a_m a))] σ = rV σ' ∧ PC ci O T N (zKnow n t a) σ' := by
  obtain ⟨a1, a2, a3, a4, a5, a6⟩ := h.2.2.2.1
  rw [hx] at a1 a3 a6
  have a1 : σ.1 14 0 3 = Int32.ofNat (a_m a + 1) := a1
  have a3 : a_m a + 1 ≤ 24 := a3
  obtain ⟨c1, c3, c4⟩ := a6 n t rfl
  have e1 : sm_callM X true (d + 1) 76 [vP (14, 0), vI (Int32.ofNat (a_m a))] σ = rV (sI (sI σ 49 0 (a_k a).length (Int32.ofNat (a_m a))) 14 0 4 (Int32.ofNat ((a_k a).length + 1))) := by
    rw [f_X4_know, q_X4_know_0, a2, if_pos (by rw [show (24 : Int32) = Int32.ofNat 24 from rfl, i_lt (by omega) (by omega)]; omega), if_neg (i_nn (by omega)), if_pos (by rw [show (24 : Int32) = Int32.ofNat 24 from rfl, i_lt (by omega) (by omega)]; omega), ix_nat (by omega) (by decide), show (sI σ 49 0 (a_k a).length (Int32.ofNat (a_m a))).1 14 0 4 = Int32.ofNat (a_k a).length by rw [gI, if_neg (by omega)]; exact a2, i_s]
  refine ⟨_, e1, ?_⟩
  obtain ⟨σ', e2, c2, -⟩ := ci_know (X := X) (d := d) (Int32.ofNat (a_m a)) h.2.2.2.2.1
  rw [e1] at e2
  rw [← rV_inj e2] at c2
  refine PC_pn h (PT_o (PT_o h.1 (by omega) (by omega) (by omega) (by omega)) (by omega) (by omega) (by omega) (by omega)) (CV_o (CV_o h.2.1 (by omega) (by omega) (by omega) (by omega) (by omega) (by omega)) (by omega) (by omega) (by omega) (by omega) (by omega) (by omega)) (PQ_o (PQ_o h.2.2.1 (by omega) (by omega) (by omega) (by omega) (by omega)) (by omega) (by omega) (by omega) (by omega) (by omega)) c2 (by rw [gI, if_neg (by omega), gI, if_neg (by omega)]) (kn := a_k a ++ [(n, t, a_m a)]) (m := a_m a + 1) (x := none) ?_ rfl hw
  have hl : (a_k a ++ [(n, t, a_m a)]).length = (a_k a).length + 1 := by rw [List.length_append]; rfl
  refine ⟨?_, ?_, a3, by rw [hl]; omega, fun j e hj => ?_, fun n' t' hx' => by cases hx'⟩
  · rw [gI, if_neg (by omega), gI, if_neg (by omega)]; exact a1
  · rw [gI, if_pos ⟨rfl, rfl, rfl⟩, hl]
  · rcases Nat.lt_or_ge j (a_k a).length with z | z
    · rw [List.getElem?_append_left z] at hj
      obtain ⟨b1, b2, b3, b4, b5⟩ := a5 j e hj
      refine ⟨?_, b2, ?_, b4, by omega⟩
      · rw [gI, if_neg (by omega), gI, if_neg (by omega)]; exact b1
      · rw [gI, if_neg (by omega), gI, if_neg (by omega)]; exact b3
    · have hz := (List.getElem?_eq_some_iff.mp hj).1
      rw [hl] at hz
      have hj2 : j = (a_k a).length := by omega
      subst hj2
      have he : e = (n, t, a_m a) := by simp at hj; exact hj.symm
      subst he
      refine ⟨?_, c1, ?_, c4, Nat.lt_succ_self _⟩
      · rw [gI, if_neg (by omega), gI, if_pos ⟨rfl, rfl, rfl⟩]
      · rw [gI, if_neg (by omega), gI, if_neg (by omega)]; exact c3
theorem c_knownNow (h : PC ci O T N a σ) : sm_callM X true (d + 1) 77 [vP (14, 0)] σ = rI (Int32.ofNat (a_k a).length) σ := by
  rw [f_X4_knownNow, q_X4_knownNow_0, h.2.2.2.1.2.1]
theorem c_forget {kn : List (List Int32 × Int32 × Nat)} (h : PC ci O T N a σ) (hk : kn <+: a_k a) (hw : wN a = 0) : ∃ σ', sm_callM X true (d + 2) 78 [vP (14, 0), vI (Int32.ofNat kn.length)] σ = rV σ' ∧ PC ci O T N (aK a kn) σ' := by
  obtain ⟨a1, a2, a3, a4, a5, a6⟩ := h.2.2.2.1
  have hl := hk.length_le
  have hm : a_m a ≤ 24 := by omega
  have e1 : sm_callM X true (d + 2) 78 [vP (14, 0), vI (Int32.ofNat kn.length)] σ = rV (sI σ 14 0 4 (Int32.ofNat kn.length)) := by
    rw [f_X4_forgetDownTo, q_X4_forgetDownTo_0, a2, j_min, bI_r, j_max, bI_r]
    have e3 : (if Int32.ofNat kn.length < Int32.ofNat (a_k a).length then Int32.ofNat kn.length else Int32.ofNat (a_k a).length) = Int32.ofNat kn.length := by
      by_cases q : kn.length < (a_k a).length
      · rw [if_pos ((i_lt (by omega) (by omega)).mpr q)]
      · rw [if_neg (fun z => q ((i_lt (by omega) (by omega)).mp z)), show kn.length = (a_k a).length by omega]
    rw [e3]
    have e4 : (if (0 : Int32) < Int32.ofNat kn.length then Int32.ofNat kn.length else 0) = Int32.ofNat kn.length := by
      by_cases q : 0 < kn.length
      · rw [if_pos (by rw [show (0 : Int32) = Int32.ofNat 0 from rfl, i_lt (by omega) (by omega)]; exact q)]
      · rw [if_neg (by rw [show (0 : Int32) = Int32.ofNat 0 from rfl, i_lt (by omega) (by omega)]; exact q), show kn.length = 0 by omega]; rfl
    rw [e4]
  refine ⟨_, e1, ?_⟩
  obtain ⟨σ', e2, c2, -⟩ := ci_forget (X := X) (d := d) (Int32.ofNat kn.length) h.2.2.2.2.1
  rw [e1] at e2
  rw [← rV_inj e2] at c2
  refine PC_pn h (PT_o h.1 (by omega) (by omega) (by omega) (by omega)) (CV_o h.2.1 (by omega) (by omega) (by omega) (by omega) (by omega) (by omega)) (PQ_o h.2.2.1 (by omega) (by omega) (by omega) (by omega) (by omega)) c2 (by rw [gI, if_neg (by omega)]) (kn := kn) (m := a_m a) (x := a_x a) ?_ rfl hw
  refine ⟨by rw [gI, if_neg (by omega)]; exact a1, by rw [gI, if_pos ⟨rfl, rfl, rfl⟩], a3, by omega, fun j e hj => ?_, fun n t hx => ?_⟩
  · obtain ⟨m, hm⟩ := hk
    have hj2 : (a_k a)[j]? = some e := by rw [← hm, List.getElem?_append_left (List.getElem?_eq_some_iff.mp hj).1]; exact hj
    obtain ⟨b1, b2, b3, b4, b5⟩ := a5 j e hj2
    exact ⟨by rw [gI, if_neg (by omega)]; exact b1, b2, by rw [gI, if_neg (by omega)]; exact b3, b4, b5⟩
  · obtain ⟨b1, b2, b3⟩ := a6 n t hx
    exact ⟨b1, by rw [gI, if_neg (by omega)]; exact b2, b3⟩
def kSl (n : List Int32) (kn : List (List Int32 × Int32 × Nat)) : Int32 := match kFind n kn with | none => -1 | some e => Int32.ofNat e.2
theorem c_slotOf_2 {n : List Int32} (hn : nmOk n) (h : PC ci O T N a σ) : ∀ (m k : Nat) (d2 : sm_V), k + m = (a_k a).length → sm_go (sm_ZZ X) sm_PP true (sm_callM X true d) 79 2 [vP (14, 0), vL (pk7 n 0), d2, vI (Int32.ofNat k)] [] σ = rI (kSl n ((a_k a).drop k)) σ
  | 0, k, d2, hk => by
    obtain ⟨a1, a2, a3, a4, a5, a6⟩ := h.2.2.2.1
    rw [q_X4_slotOf_2, a2, if_neg (by rw [i_lt (by omega) (by omega)]; omega), List.drop_eq_nil_of_le (by omega)]; rfl
  | m + 1, k, d2, hk => by
    obtain ⟨a1, a2, a3, a4, a5, a6⟩ := h.2.2.2.1
    have hkl : k < (a_k a).length := by omega
    obtain ⟨b1, b2, b3, b4, b5⟩ := a5 k _ (List.getElem?_eq_getElem hkl)
    rw [q_X4_slotOf_2, a2, if_pos (by rw [i_lt (by omega) (by omega)]; omega), ix_nat (by omega) (by decide), b1, ix_nat (by omega) (by decide), b2, List.drop_eq_getElem_cons hkl]
    unfold kSl
    rw [kFind]
    by_cases q : ((a_k a)[k]).1 = n
    · rw [if_pos ((lgc _ _).mpr ((pk7_inj b4 hn).mpr q)), ix_nat (by omega) (by decide), if_pos q, b1]
    · rw [if_neg (fun z => q ((pk7_inj b4 hn).mp ((lgc _ _).mp z))), i_s, if_neg q]
      exact c_slotOf_2 hn h m (k + 1) _ (by omega)
theorem c_slotOf {n : List Int32} (hn : nmOk n) (h : PC ci O T N a σ) : sm_callM X true (d + 1) 79 [vP (14, 0), vL (pk7 n 0)] σ = rI (kSl n (a_k a)) σ := by
  rw [f_X4_slotOf, q_X4_slotOf_0]
  exact c_slotOf_2 hn h (a_k a).length 0 _ (Nat.zero_add _)
theorem kFind_m {n : List Int32} {kn : List (List Int32 × Int32 × Nat)} {e : Int32 × Nat} (h : kFind n kn = some e) : (n, e) ∈ kn := by
  induction kn with
  | nil => cases h
  | cons x r ih =>
    rw [kFind] at h
    by_cases q : x.1 = n
    · rw [if_pos q] at h
      have : x = (n, e) := by rw [← q]; exact Prod.ext rfl (Option.some.inj h)
      rw [this]; exact List.mem_cons_self
    · rw [if_neg q] at h
      exact List.mem_cons_of_mem _ (ih h)
theorem c_typeOf {n : List Int32} {e : Int32 × Nat} (h : PC ci O T N a σ) (he : (n, e) ∈ a_k a) : sm_callM X true (d + 1) 80 [vP (14, 0), vI (Int32.ofNat e.2)] σ = rI e.1 σ := by
  obtain ⟨a1, a2, a3, a4, a5, a6⟩ := h.2.2.2.1
  obtain ⟨j, hj⟩ := List.mem_iff_getElem?.mp he
  obtain ⟨b1, b2, b3, b4, b5⟩ := a5 j _ hj
  have b5 : e.2 < a_m a := b5
  have b3 : σ.1 48 0 e.2 = e.1 := b3
  rw [f_X4_typeOf, q_X4_typeOf_0, if_neg (i_nn (by omega)), a1, if_pos (by rw [i_lt (by omega) (by omega)]; omega), ix_nat (by omega) (by decide), b3]
theorem c_full (h : PC ci O T N a σ) (hx : a_x a = none) : sm_callM X true (d + 1) 74 [vP (14, 0)] σ = rI (if a_m a = 24 then 1 else 0) σ := by
  obtain ⟨a1, a2, a3, a4, a5, a6⟩ := h.2.2.2.1
  rw [hx] at a1 a3
  have a3 : a_m a ≤ 24 := a3
  rw [c_isFull (n := a_m a) a1 a3]
  by_cases q : a_m a = 24
  · rw [if_pos q, if_neg (by omega)]
  · rw [if_neg q, if_pos (by omega)]
end
