section
/-! CALLS IN THE REFERENCE -/
variable {X : Nat × (Nat → Int32)} {d : Nat} {s σ : sm_S} {mi N : Nat} {O : Nat → Nat → Nat → Int32} {T : zT} {a b : zA} {t : Int32} {sub : zA → zR}
theorem own_of {ps : List zP} {i : Nat} (h12 : ps.length ≤ 12) (hi : i < ps.length) : Int32.ofNat i < 12 ∧ ∃ e, ps[i]? = some e ∧ qPar ps (Int32.ofNat i) = e.2.2.1 ∧ qGiv ps (Int32.ofNat i) = e.2.1 := by
  have hl : (Int32.ofNat i < 12) := by rw [show (12 : Int32) = Int32.ofNat 12 from rfl, i_lt (by omega) (by omega)]; omega
  refine ⟨hl, _, List.getElem?_eq_getElem hi, ?_, ?_⟩
  · unfold qPar; rw [if_pos hl, i_tn (by omega), List.getElem?_eq_getElem hi]; rfl
  · unfold qGiv; rw [if_pos hl, i_tn (by omega), List.getElem?_eq_getElem hi]; rfl
theorem fiv_of {ps : List zP} {i : Nat} (hi : i < 5) : ¬ Int32.ofNat (12 + i) < 12 ∧ qPar ps (Int32.ofNat (12 + i)) = fivP i ∧ qGiv ps (Int32.ofNat (12 + i)) = fivG i := by
  obtain ⟨h1, h2, h3, -⟩ := five_par i hi
  refine ⟨h1, ?_, ?_⟩
  · unfold qPar; rw [if_neg h1]; exact h2
  · unfold qGiv; rw [if_neg h1]; exact h3
theorem m_par5 {i : Nat} (hi : i < 5) : sm_callM X true (d + 1) 238 [vI (Int32.ofNat (12 + i))] s = rI (Int32.ofNat (fivP i).length) s := by
  rw [f_X13_paramsOfFive, q_X13_paramsOfFive_0]
  rcases (show i = 0 ∨ i = 1 ∨ i = 2 ∨ i = 3 ∨ i = 4 by omega) with rfl | rfl | rfl | rfl | rfl <;> rfl
theorem m_parT5 {i j : Nat} (hi : i < 5) (hj : j < (fivP i).length) : sm_callM X true (d + 1) 239 [vP (23, 0), vI (Int32.ofNat (12 + i)), vI (Int32.ofNat j)] s = rI ((fivP i).getD j 38) s := by
  rw [f_X13_paramType, q_X13_paramType_0]
  have e55 : ∀ (v0 v1 v2 v3 : sm_V), sm_go (sm_ZZ X) sm_PP true (sm_callM X true d) 239 55 [v0, v1, v2, v3] [] s = rI 18 s := fun v0 v1 v2 v3 => by rw [q_X13_paramType_55]
  rw [e55]
  rcases (show i = 0 ∨ i = 1 ∨ i = 2 ∨ i = 3 ∨ i = 4 by omega) with rfl | rfl | rfl | rfl | rfl
  · have hj : j < 1 := hj
    rcases (show j = 0 by omega) with rfl; rfl
  · have hj : j < 2 := hj
    rcases (show j = 0 ∨ j = 1 by omega) with rfl | rfl <;> rfl
  · have hj : j < 2 := hj
    rcases (show j = 0 ∨ j = 1 by omega) with rfl | rfl <;> rfl
  · have hj : j < 3 := hj
    rcases (show j = 0 ∨ j = 1 ∨ j = 2 by omega) with rfl | rfl | rfl <;> rfl
  · have hj : j < 0 := hj
    omega
theorem m_parT {q x : Int32} {j : Nat} (h : PM mi O T N a σ) (hx : cIx (a_q a) q x) (hj : j < (qPar (a_q a) q).length) : sm_callM X true (d + 1) 239 [vP (23, 0), vI q, vI (Int32.ofNat j)] σ = rI ((qPar (a_q a) q).getD j 38) σ := by
  obtain ⟨p1, p2, p3, p4⟩ := h.2.2.1
  rcases hx with ⟨i, hi, rfl, -⟩ | ⟨i, hi, rfl, -⟩
  · obtain ⟨hl, e, he, e1, -⟩ := own_of p2 hi
    obtain ⟨b1, b2, b3, b4, b5, b6, b7, b8⟩ := p4 i e he
    rw [e1] at hj ⊢
    have hg : e.2.2.1[j]? = some (e.2.2.1.getD j 38) := by rw [List.getElem?_eq_getElem hj]; simp [List.getD, hj]
    rw [f_X13_paramType, q_X13_paramType_0, if_pos hl, PM_cd h, rq_t, show (4 : Int32) = Int32.ofNat 4 from rfl, i_mul, i_add, ix_nat (by omega) (by decide), b8 j _ hg]
  · obtain ⟨-, e1, -⟩ := fiv_of (ps := a_q a) hi
    rw [e1] at hj ⊢
    exact m_parT5 hi hj
theorem fiv_ty : ∀ i, i < 5 → ∀ t ∈ fivP i, t = 36 ∨ cRef t = 1 := by decide
theorem par_ty {ps : List zP} {q x : Int32} {j : Nat} (h12 : ps.length ≤ 12) (ht : ∀ q ∈ ps, tyOk q.2.1 ∧ ∀ t ∈ q.2.2.1, tyOk t) (hx : cIx ps q x) (hj : j < (qPar ps q).length) : tyOk ((qPar ps q).getD j 38) := by
  have hm : (qPar ps q).getD j 38 ∈ qPar ps q := by
    have : (qPar ps q).getD j 38 = (qPar ps q)[j] := by simp [List.getD, hj]
    rw [this]; exact List.getElem_mem hj
  rcases hx with ⟨i, hi, rfl, -⟩ | ⟨i, hi, rfl, -⟩
  · obtain ⟨hl, e, he, e1, -⟩ := own_of h12 hi
    rw [e1] at hm ⊢
    exact (ht e (List.mem_of_getElem? he)).2 _ hm
  · obtain ⟨-, e1, -⟩ := fiv_of (ps := ps) hi
    rw [e1] at hm ⊢
    rcases fiv_ty i hi _ hm with z | z
    · exact Or.inl z
    · exact Or.inr (Or.inr z)
theorem par_len {q x : Int32} (h : PM mi O T N a σ) (hx : cIx (a_q a) q x) : (qPar (a_q a) q).length ≤ 4 := by
  obtain ⟨p1, p2, p3, p4⟩ := h.2.2.1
  rcases hx with ⟨i, hi, rfl, -⟩ | ⟨i, hi, rfl, -⟩
  · obtain ⟨hl, e, he, e1, -⟩ := own_of p2 hi
    rw [e1]; exact (p4 i e he).2.2.2.2.1
  · obtain ⟨-, e1, -⟩ := fiv_of (ps := a_q a) hi
    rw [e1]; exact (five_par i hi).2.2.2
theorem mcall_d : ∀ i, i < 5 → ((Int32.ofNat (12 + i) + 16).toNatClampNeg = 28 + i ∧ vM (28 + i) = true ∧ ∀ (g pl ty : Int32) (G : zG), mOp (28 + i, g, 0, pl, ty, G) = 18 ∧ (∀ l, Int32.ofNat (12 + i) = mNum l (28 + i, g, 0, pl, ty, G)) ∧ mSec (28 + i, g, 0, pl, ty, G) = 0) := by
  intro i hi
  rcases (show i = 0 ∨ i = 1 ∨ i = 2 ∨ i = 3 ∨ i = 4 by omega) with rfl | rfl | rfl | rfl | rfl <;> exact ⟨by decide, rfl, fun g pl ty G => ⟨rfl, fun l => rfl, rfl⟩⟩
theorem fivG_d : ∀ i, i < 5 → (if Int32.ofNat (12 + i) = 12 then (18 : Int32) else 36) = fivG i := fun i hi => (five_par i hi).2.2.1
theorem mNum_27 {l : List zI} {g pl ty : Int32} {tgt : Nat} {G : zG} : mNum l (27, g, tgt, pl, ty, G) = g - 5 := rfl
/-- the ) of a call -/
theorem m_call86_0 {q x : Int32} {p0 i : Nat} {v6 : sm_V} (hT : TK T N) (h : PM mi O T N a σ) (hk : T.1 (a_p a) = 41) (hl : zL a < 900) (h1 : 1 ≤ a_o a) (h10 : a_o a ≤ 10) (hx : cIx (a_q a) q x) (hp : p0 ≤ N) (hp8 : p0 ≤ 800) (hi : i < 2 ^ 31) : SMI mi O T N (sm_go (sm_ZZ X) sm_PP true (sm_callM X true (d + 11)) 240 86 [vP (23, 0), vI (Int32.ofNat p0), vI q, vI (Int32.ofNat (qPar (a_q a) q).length), vI (Int32.ofNat i), vI 0, v6] [] σ) (zCK T (a_q a) q (T.2.2.2 p0) (Int32.ofNat i) a) := by
  have hl4 := par_len h hx
  have hpa := h.1.2.1
  have hpa8 := PM_len h
  have key : ∀ y : Int32, (y = 0 ↔ ¬ Int32.ofNat i = Int32.ofNat (qPar (a_q a) q).length) → SMI mi O T N (sm_go (sm_ZZ X) sm_PP true (sm_callM X true (d + 11)) 240 193 [vP (23, 0), vI (Int32.ofNat p0), vI q, vI (Int32.ofNat (qPar (a_q a) q).length), vI (Int32.ofNat i), vI 0, vU] [vI y, vP (23, 0)] σ) (zCK T (a_q a) q (T.2.2.2 p0) (Int32.ofNat i) a) := by
    intro y hy
    rw [q_X13_call_193, if_pos rfl, PM_at h]
    unfold zCK
    refine mtI (d := d + 9) h hy hpa (by omega) (fun c1 => ?_)
    refine mnI (d := d + 9) hT (PM_close h h1 h10) (by show T.1 (a_p a) ≠ 6; rw [hk]; decide) (by show T.1 (a_p a) ≠ 7; rw [hk]; decide) (fun σ1 n1 h2 => ?_)
    rcases hx with ⟨j, hj, rfl, -⟩ | ⟨j, hj, rfl, -⟩
    · obtain ⟨hlt, e, he, -, e2⟩ := own_of h.2.2.1.2.1 hj
      have h12 := h.2.2.1.2.1
      refine meI (d := d + 10) (op := 27) (tk := p0) (arg := Int32.ofNat j + 5) (ty := qGiv (a_q a) (Int32.ofNat j)) (pl := T.2.2.2 p0) (tgt := 0) h2 hl rfl (Nat.zero_le _) rfl (by rw [mNum_27, Int32.add_sub_cancel]) rfl (Or.inr ⟨rfl, hp, by omega, rfl⟩) (fun σ2 h3 => ?_)
      rw [if_pos hlt, if_pos hlt, show (sI σ2 23 0 20 4).2.2.1 23 0 7 = (22, mi) from (show σ2.2.2.1 23 0 7 = (22, mi) from PM_cd h3), rq_t, ix_nat (by omega) (by decide), gI, if_neg (by omega)]
      have h59 : σ2.1 59 mi j = e.2.1 := (h3.2.2.1.2.2.2 j e he).2.2.2.2.2.2.1
      rw [h59, e2]
      rw [e2] at h3
      exact ⟨_, rfl, PM_sh (n := 4) h3⟩
    · obtain ⟨hlt, -, e2⟩ := fiv_of (ps := a_q a) hj
      obtain ⟨g1, g2, g3⟩ := mcall_d j hj
      rw [if_neg hlt, g1]
      refine meI (d := d + 10) (op := 28 + j) (tk := p0) (arg := 0) (ty := qGiv (a_q a) (Int32.ofNat (12 + j))) (pl := T.2.2.2 p0) (tgt := 0) h2 hl g2 (Nat.zero_le _) (by rw [(g3 _ _ _ _).1]; rfl) ((g3 _ _ _ _).2.1 _) (g3 _ _ _ _).2.2 (Or.inr ⟨rfl, hp, by omega, rfl⟩) (fun σ2 h3 => ?_)
      rw [if_neg hlt]
      have e3 := fivG_d j hj
      rw [e2, ← e3]
      rw [e2, ← e3] at h3
      by_cases q12 : Int32.ofNat (12 + j) = 12
      · rw [if_pos q12, if_pos q12]
        rw [if_pos q12] at h3
        exact ⟨_, rfl, PM_sh (n := 4) h3⟩
      · rw [if_neg q12, if_neg q12]
        rw [if_neg q12] at h3
        exact ⟨_, rfl, PM_sh (n := 4) h3⟩
  rw [q_X13_call_86, if_pos rfl]
  by_cases z : Int32.ofNat i = Int32.ofNat (qPar (a_q a) q).length
  · rw [if_pos z]; exact key 1 ⟨fun w => absurd w (by decide), fun w => absurd z w⟩
  · rw [if_neg z]; exact key 0 ⟨fun _ => z, fun _ => rfl⟩
/-- the arguments -/
theorem m_args {q x : Int32} {p0 o : Nat} (hT : TK T N) (hD : SubD sub) (hV : SubV sub) (ho : o < 10) (hs : HM X d mi O T N sub (o + 1)) (ps : List zP) (hx : cIx ps q x) (hp : p0 ≤ N) (hp8 : p0 ≤ 800) : ∀ (f i : Nat) (a : zA) (σ : sm_S) (v6 : sm_V), PM mi O T N a σ → a_q a = ps → a_o a = o + 1 → zL a ≤ a_p a → tyA a → i ≤ a_p a → 801 ≤ f + a_p a →
    SMI mi O T N (sm_go (sm_ZZ X) sm_PP true (sm_callM X true (d + 11)) 240 86 [vP (23, 0), vI (Int32.ofNat p0), vI q, vI (Int32.ofNat (qPar ps q).length), vI (Int32.ofNat i), vI 1, v6] [] σ) (pb (zArgs T sub (qPar ps q) f i a) (zCK T ps q (T.2.2.2 p0)))
  | 0, i, a, σ, v6, h, hq, hoa, hb, hty, hi, hf => by have := PM_len h; omega
  | f + 1, i, a, σ, v6, h, hq, hoa, hb, hty, hi, hf => by
    have hpa8 := PM_len h
    rw [q_X13_call_86, if_neg (by decide), zArgs, pb_pb]
    refine mbII (hs 11 a σ h hoa hb hty) (fun t a1 σ1 e1 h1 => ?_)
    obtain ⟨-, b1, t1, l1, o1, lt1, q1⟩ := sub_b hD hpa8 hb hty e1
    have V1 := hV a t a1 hpa8 hty e1
    have hq1 : a_q a1 = ps := q1.trans hq
    have hp1 := h1.1.2.1
    have hp18 := PM_len h1
    have hx1 : cIx (a_q a1) q x := by rw [hq1]; exact hx
    have l4 := par_len h1 hx1
    rw [hq1] at l4
    have fin : ∀ y : Int32, (T.1 (a_p a1) = 44 ∨ T.1 (a_p a1) = 41) → (y = 0 ↔ ¬ (i < (qPar ps q).length ∧ cFit t ((qPar ps q).getD i 38) = 1)) → ∀ v5 v6 : sm_V, SMI mi O T N (sm_go (sm_ZZ X) sm_PP true (sm_callM X true (d + 11)) 240 151 [vP (23, 0), vI (Int32.ofNat p0), vI q, vI (Int32.ofNat (qPar ps q).length), vI (Int32.ofNat i), v5, v6] [vI y, vP (23, 0)] σ1) (pb (if i < (qPar ps q).length ∧ cFit t ((qPar ps q).getD i 38) = 1 then (if T.1 (a_p a1) = 44 then pb (zN a1) (fun _ a2 => zArgs T sub (qPar ps q) f (i + 1) a2) else .inr (Int32.ofNat (i + 1), a1)) else .inl (4, a_p a1)) (zCK T ps q (T.2.2.2 p0))) := by
      intro y hk hy v5 v6
      have e0 : pb (if i < (qPar ps q).length ∧ cFit t ((qPar ps q).getD i 38) = 1 then (if T.1 (a_p a1) = 44 then pb (zN a1) (fun _ a2 => zArgs T sub (qPar ps q) f (i + 1) a2) else .inr (Int32.ofNat (i + 1), a1)) else .inl (4, a_p a1)) (zCK T ps q (T.2.2.2 p0)) = if i < (qPar ps q).length ∧ cFit t ((qPar ps q).getD i 38) = 1 then (pb (if T.1 (a_p a1) = 44 then pb (zN a1) (fun _ a2 => zArgs T sub (qPar ps q) f (i + 1) a2) else .inr (Int32.ofNat (i + 1), a1)) (zCK T ps q (T.2.2.2 p0))) else .inl (4, a_p a1) := by
        by_cases z : i < (qPar ps q).length ∧ cFit t ((qPar ps q).getD i 38) = 1
        · rw [if_pos z, if_pos z]
        · rw [if_neg z, if_neg z]; rfl
      rw [e0, q_X13_call_151, if_pos rfl, PM_at h1]
      refine mtI (d := d + 9) h1 hy hp1 (by omega) (fun c2 => ?_)
      rw [m_is h1 (by decide), bI_r, i_s]
      by_cases k44 : T.1 (a_p a1) = 44
      · rw [if_pos k44, if_neg (by decide), if_pos k44, pb_pb]
        refine mnI (d := d + 9) hT h1 (by rw [k44]; decide) (by rw [k44]; decide) (fun σ2 n2 h2 => ?_)
        exact m_args hT hD hV ho hs ps hx hp hp8 f (i + 1) _ σ2 _ h2 hq1 (o1.trans hoa) (by show zL a1 ≤ a_p a1 + 1; omega) t1 (by show i + 1 ≤ a_p a1 + 1; omega) (by show 801 ≤ f + (a_p a1 + 1); omega)
      · rw [if_neg k44, if_pos rfl, if_neg k44, pb_r]
        have k41 := hk.resolve_left k44
        have := m_call86_0 (X := X) (d := d) (p0 := p0) (i := i + 1) (v6 := vU) hT h1 k41 l1 (by omega) (by omega) hx1 hp hp8 (by omega)
        rw [hq1] at this
        exact this
    have key : ∀ y : Int32, (y = 0 ↔ ¬ (T.1 (a_p a1) = 44 ∨ T.1 (a_p a1) = 41)) → SMI mi O T N (sm_go (sm_ZZ X) sm_PP true (sm_callM X true (d + 11)) 240 121 [vP (23, 0), vI (Int32.ofNat p0), vI q, vI (Int32.ofNat (qPar ps q).length), vI (Int32.ofNat i), vI 1, vI t] [vI y, vP (23, 0)] σ1) (pb (if T.1 (a_p a1) = 44 ∨ T.1 (a_p a1) = 41 then (if i < (qPar ps q).length ∧ cFit t ((qPar ps q).getD i 38) = 1 then (if T.1 (a_p a1) = 44 then pb (zN a1) (fun _ a2 => zArgs T sub (qPar ps q) f (i + 1) a2) else .inr (Int32.ofNat (i + 1), a1)) else .inl (4, a_p a1)) else .inl (1, a_p a1)) (zCK T ps q (T.2.2.2 p0))) := by
      intro y hy
      have e0 : ∀ r : zR, pb (if T.1 (a_p a1) = 44 ∨ T.1 (a_p a1) = 41 then r else .inl (1, a_p a1)) (zCK T ps q (T.2.2.2 p0)) = if T.1 (a_p a1) = 44 ∨ T.1 (a_p a1) = 41 then pb r (zCK T ps q (T.2.2.2 p0)) else .inl (1, a_p a1) := by
        intro r
        by_cases z : T.1 (a_p a1) = 44 ∨ T.1 (a_p a1) = 41
        · rw [if_pos z, if_pos z]
        · rw [if_neg z, if_neg z]; rfl
      rw [e0, q_X13_call_121, if_pos rfl]
      refine mfI (d := d + 9) h1 hy (fun c2 => ?_)
      by_cases z : i < (qPar ps q).length
      · rw [if_pos ((i_lt (by omega) (by omega)).mpr z)]
        have hpt := m_parT (X := X) (d := d + 10) (j := i) h1 hx1 (by rw [hq1]; exact z)
        rw [hq1] at hpt
        have hpty := par_ty (j := i) (by rw [← hq1]; exact h1.2.2.1.2.1) (by rw [← hq1]; exact t1.2) hx z
        rw [hpt, bI_r, m_fit (d := d + 7) V1 hpty, bI_r]
        rcases cFit_01 t ((qPar ps q).getD i 38) with w | w
        · rw [if_pos w]; exact fin 0 c2 ⟨fun _ v => absurd (v.2.symm.trans w) (by decide), fun _ => rfl⟩ _ _
        · rw [if_neg (by rw [w]; decide)]; exact fin 1 c2 ⟨fun v => absurd v (by decide), fun v => absurd ⟨z, w⟩ v⟩ _ _
      · rw [if_neg (fun w => z ((i_lt (by omega) (by omega)).mp w))]
        exact fin 0 c2 ⟨fun _ v => z v.1, fun _ => rfl⟩ _ _
    rw [m_is h1 (by decide), bI_r]
    by_cases k44 : T.1 (a_p a1) = 44
    · rw [if_pos k44, if_neg (by decide)]
      exact key 1 ⟨fun v => absurd v (by decide), fun v => absurd (Or.inl k44) v⟩
    · rw [if_neg k44, if_pos rfl, m_is h1 (by decide), bI_r]
      by_cases k41 : T.1 (a_p a1) = 41
      · rw [if_pos k41, if_neg (by decide)]
        exact key 1 ⟨fun v => absurd v (by decide), fun v => absurd (Or.inr k41) v⟩
      · rw [if_neg k41, if_pos rfl]
        exact key 0 ⟨fun _ v => v.elim k44 k41, fun _ => rfl⟩
/-- NAME ( ... ) -/
theorem m_call (hT : TK T N) (hD : SubD sub) (hV : SubV sub) (h : PM mi O T N a σ) (hk : T.1 (a_p a) = 3) (ho : a_o a ≤ 10) (hs : a_o a < 10 → HM X d mi O T N sub (a_o a + 1)) (hb : zL a ≤ a_p a) (hty : tyA a) : SMI mi O T N (sm_callM X true (d + 12) 240 [vP (23, 0)] σ) (zCall T sub a) := by
  have hn := hT.2.2.2.1 _ hk
  have h12 := h.2.2.1.2.1
  have hp0 := h.1.2.1
  have hp8 := PM_len h
  rw [f_X13_call, q_X13_call_0, PM_ix h, PM_nm h hk, m_procOf (d := d + 4) hn h, bI_r]
  unfold zCall
  rcases pFind_c (n := T.2.1 (a_p a)) h12 with ⟨f1, f2⟩ | ⟨f1, f2, f3⟩
  · rw [if_pos f1, if_pos f1, PM_at h]
    exact mThI (d := d + 10) h hp0 (by omega)
  · rw [if_neg f1, if_neg f1, PM_at h]
    refine mnI (d := d + 9) hT h (by rw [hk]; decide) (by rw [hk]; decide) (fun σ1 n1 h1 => ?_)
    refine mbVI (m_opens (d := d + 8) hT h1 (by decide) ho) (fun _ a2 σ2 e2 h2 => ?_)
    obtain ⟨c2, n2, e2⟩ := zOpens_inr.mp e2
    have c2o : a_o a < 10 := c2.2
    have E2 : a2 = aP (aO (aP a (a_p a + 1)) (a_o a + 1)) (a_p a + 1 + 1) := congrArg Prod.snd e2
    have p2 : a_p a2 = a_p a + 2 := by rw [E2]; rfl
    have b2 : zL a2 ≤ a_p a2 := by rw [p2, E2]; show zL a ≤ a_p a + 2; omega
    have t2 : tyA a2 := by rw [E2]; exact hty
    have o2 : a_o a2 = a_o a + 1 := by rw [E2]; rfl
    have q2 : a_q a2 = a_q a := by rw [E2]; rfl
    have hKe : (fun (n : Int32) (a3 : zA) => (if n = Int32.ofNat (qPar (a_q a) (pFind (T.2.1 (a_p a)) (a_q a))).length then
        pb (zN (aO a3 (a_o a3 - 1))) (fun _ a4 => .inr (qGiv (a_q a) (pFind (T.2.1 (a_p a)) (a_q a)),
          aS (if pFind (T.2.1 (a_p a)) (a_q a) < 12
            then zE a4 27 (pFind (T.2.1 (a_p a)) (a_q a) + 5) 0 (qGiv (a_q a) (pFind (T.2.1 (a_p a)) (a_q a))) (T.2.2.2 (a_p a))
            else zE a4 (pFind (T.2.1 (a_p a)) (a_q a) + 16).toNatClampNeg 0 0 (qGiv (a_q a) (pFind (T.2.1 (a_p a)) (a_q a))) (T.2.2.2 (a_p a))) 4))
      else .inl (4, a_p a3) : zR)) = zCK T (a_q a) (pFind (T.2.1 (a_p a)) (a_q a)) (T.2.2.2 (a_p a)) := rfl
    rw [hKe]
    generalize pFind (T.2.1 (a_p a)) (a_q a) = q at f1 f3 ⊢
    have hx2 : cIx (a_q a2) q (cFnd (T.2.1 (a_p a)) (a_q a)) := by rw [q2]; exact f3
    have main : SMI mi O T N (sm_go (sm_ZZ X) sm_PP true (sm_callM X true (d + 11)) 240 66 [vP (23, 0), vI (Int32.ofNat (a_p a)), vI q, vU, vU, vU, vU] [vI (Int32.ofNat (qPar (a_q a) q).length)] σ2) (pb (if T.1 (a_p a2) = 41 then .inr (0, a2) else zArgs T sub (qPar (a_q a) q) 801 0 a2) (zCK T (a_q a) q (T.2.2.2 (a_p a)))) := by
      rw [q_X13_call_66, m_is h2 (by decide), bI_r]
      by_cases k : T.1 (a_p a2) = 41
      · rw [if_pos k, if_neg (by decide), if_pos k, pb_r]
        have := m_call86_0 (X := X) (d := d) (p0 := a_p a) (i := 0) (v6 := vU) hT h2 k (len_m h2 b2) (by omega) (by omega) hx2 hp0 hp8 (by omega)
        rw [q2] at this
        exact this
      · rw [if_neg k, if_pos rfl, if_neg k]
        exact m_args hT hD hV c2o (hs c2o) (a_q a) f3 hp0 hp8 801 0 a2 σ2 vU h2 q2 o2 b2 t2 (Nat.zero_le _) (by omega)
    rcases f3 with ⟨i, hi, rfl, -⟩ | ⟨i, hi, rfl, -⟩
    · obtain ⟨hl, e, he, e1, -⟩ := own_of h12 hi
      have h60 : σ2.1 60 mi i = Int32.ofNat e.2.2.1.length := (h2.2.2.1.2.2.2 i e (by rw [q2]; exact he)).2.2.2.2.2.1
      rw [if_pos hl, PM_cd h2, rq_t, ix_nat (by omega) (by decide), h60, ← e1]
      exact main
    · obtain ⟨hl, e1, -⟩ := fiv_of (ps := a_q a) hi
      rw [if_neg hl, m_par5 hi, bI_r, ← e1]
      exact main
end
