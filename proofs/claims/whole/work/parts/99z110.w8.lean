section
/-! STATEMENTS IN THE REFERENCE -/
variable {X : Nat × (Nat → Int32)} {d : Nat} {s σ : sm_S} {mi N : Nat} {O : Nat → Nat → Nat → Int32} {T : zT} {a b : zA} {t : Int32} {sub : zA → zR}
def SM (mi : Nat) (O : Nat → Nat → Nat → Int32) (T : zT) (N : Nat) (a : zA) (σ : sm_S) : Prop := PM mi O T N a σ ∧ In0 tyOk a ∧ zL a ≤ a_p a ∧ tyQ a ∧ a_q a ≠ []
theorem zN_sw {op : Nat} {arg ty pl : Int32} {tgt : Nat} {k : Int32 → zA → zR} : pb (zN a) (fun y a3 => k y (zE a3 op arg tgt ty pl)) = pb (zN (zE a op arg tgt ty pl)) k := by rw [zN_E, pb_pb]; rfl
theorem m_last (h : PM mi O T N a σ) (hq : a_q a ≠ []) : ∃ e, (a_q a)[(a_q a).length - 1]? = some e ∧ σ.1 23 0 12 = Int32.ofNat ((a_q a).length - 1) ∧ (a_q a).length - 1 < 12 ∧ σ.1 59 mi ((a_q a).length - 1) = e.2.1 ∧ (gNow a).2.2.1 = e.2.1 := by
  obtain ⟨p1, p2, p3, p4⟩ := h.2.2.1
  obtain ⟨e, he⟩ := last_some hq
  have hl : 0 < (a_q a).length := List.length_pos_iff.mpr hq
  refine ⟨e, he, p3 hq, by omega, (p4 _ e he).2.2.2.2.2.2.1, ?_⟩
  show ((a_q a).getLast?.map (fun q => q.2.1)).getD 38 = e.2.1
  rw [getLast_at, he]; rfl
/-- an item, then the next token -/
theorem menV {op tk : Nat} {arg ty pl o g x3 : Int32} {tgt : Nat} (hT : TK T N) (h : PM mi O T N a σ) (h6 : T.1 (a_p a) ≠ 6) (h7 : T.1 (a_p a) ≠ 7) (hl : zL a < 900) (hv : vM op = true) (ht : tgt ≤ zL a) (ho : o = Int32.ofNat (mOp (op, arg, tgt, pl, ty, gNow a))) (hg : g = mNum (a_i a) (op, arg, tgt, pl, ty, gNow a)) (hs : mSec (op, arg, tgt, pl, ty, gNow a) = 0) (hx : (x3 = -1 ∧ pl = -1) ∨ (x3 = Int32.ofNat tk ∧ tk ≤ N ∧ tk ≤ 801 ∧ pl = T.2.2.2 tk)) : SMV mi O T N (sm_bI (sm_callM X true (d + 2) 207 [vP (23, 0), vI o, vI g, vI x3] σ) sm_tw fun _ s4 => sm_bV (sm_callM X true (d + 2) 203 [vP (23, 0)] s4) sm_tw fun s6 => some (some none, s6)) (pb (zN a) (fun _ a3 => .inr (0, zE a3 op arg tgt ty pl))) := by
  rw [zN_sw (k := fun _ a3 => .inr (0, a3))]
  exact meV (d := d + 1) h hl hv ht ho hg hs hx (fun σ1 h1 => mnV (d := d) hT h1 h6 h7 (fun σ2 _ h2 => ⟨_, rfl, h2⟩))
theorem cFit_38l (ht : tyOk t) : ¬ cFit 38 t = 1 := by
  obtain ⟨n, hn, rfl⟩ := ty39 ht
  have : ∀ n, n < 39 → ¬ cFit 38 (Int32.ofNat n) = 1 := by decide +kernel
  exact this n hn
theorem m_bare {n : Nat} (h : PM mi O T N a σ) (hn : n < 2 ^ 30) : sm_callM X true (d + 1) 225 [vP (23, 0), vI (Int32.ofNat n)] σ = rI (if a_p a = n + 1 then 1 else 0) σ := by
  have := PM_len h
  rw [f_X13_isBare, q_X13_isBare_0, PM_at h, i_s]
  by_cases q : a_p a = n + 1
  · rw [if_pos ((i_eq (by omega) (by omega)).mpr q), if_pos q]
  · rw [if_neg (fun z => q ((i_eq (by omega) (by omega)).mp z)), if_neg q]
/-- return -/
theorem m_gives (hT : TK T N) (hE : HM X d mi O T N (zX_ T 11) 0) (hS : SM mi O T N a σ) (hk : T.1 (a_p a) = 207) (ho : a_o a = 0) : SMV mi O T N (sm_callM X true (d + 21) 224 [vP (23, 0), vI (Int32.ofNat (a_p a))] σ) (zRet T a) := by
  obtain ⟨h, hi, hb, hq, hne⟩ := hS
  have hty := tyA_of hi hq
  have hp0 := h.1.2.1
  have hp8 := PM_len h
  rw [f_X13_gives, q_X13_gives_0]
  unfold zRet
  refine mnV (d := d + 18) hT h (by rw [hk]; decide) (by rw [hk]; decide) (fun σ1 n1 h1 => ?_)
  obtain ⟨e, he, g12, l12, g59, gl⟩ := m_last h1 hne
  have gl : (gNow a).2.2.1 = e.2.1 := gl
  have eok : tyOk e.2.1 := (hq e (List.mem_of_getElem? he)).1
  have b1 : zL (aP a (a_p a + 1)) ≤ a_p (aP a (a_p a + 1)) := by show zL a ≤ a_p a + 1; omega
  rw [PM_cd h1, rq_t, g12, ix_nat l12 (by decide), g59, gl, m_is h1 (by decide), bI_r]
  generalize e.2.1 = g at eok
  have last : ∀ (y : Int32) (op1 : Int32) (c : Prop) [Decidable c] (a2 : zA) (σ2 : sm_S), PM mi O T N a2 σ2 → zL a2 < 900 → T.1 (a_p a2) = 59 → (y = 0 ↔ ¬ c) → (c → (g = 38 ↔ op1 = 0)) → (op1 = 0 ∨ op1 = 1) → ∀ v : sm_V, SMV mi O T N (sm_go (sm_ZZ X) sm_PP true (sm_callM X true (d + 20)) 224 90 [vP (23, 0), vI (Int32.ofNat (a_p a)), vI g, v] [vI y, vP (23, 0)] σ2) (if c then pb (zN a2) (fun _ a3 => .inr (0, zE a3 24 op1 0 0 (T.2.2.2 (a_p a)))) else .inl (4, a_p a2)) := by
    intro y op1 c _ a2 σ2 h2 l2 k2 hy hg ho1 v
    have hp2 := h2.1.2.1
    have hp28 := PM_len h2
    rw [q_X13_gives_90, if_pos rfl, PM_at h2]
    refine mtV (d := d + 18) h2 hy hp2 (by omega) (fun c1 => ?_)
    have hg := hg c1
    by_cases q : g = 38
    · rw [if_pos q]
      have z := hg.mp q
      subst z
      exact menV (d := d + 18) (op := 24) (tk := a_p a) (arg := 0) (ty := 0) (tgt := 0) hT h2 (by rw [k2]; decide) (by rw [k2]; decide) l2 rfl (Nat.zero_le _) rfl rfl rfl (Or.inr ⟨rfl, hp0, by omega, rfl⟩)
    · rw [if_neg q]
      have z : op1 = 1 := ho1.resolve_left (fun w => q (hg.mpr w))
      subst z
      exact menV (d := d + 18) (op := 24) (tk := a_p a) (arg := 1) (ty := 0) (tgt := 0) hT h2 (by rw [k2]; decide) (by rw [k2]; decide) l2 rfl (Nat.zero_le _) rfl rfl rfl (Or.inr ⟨rfl, hp0, by omega, rfl⟩)
  have m22 : ∀ {a2 : zA} {σ2 : sm_S}, PM mi O T N a2 σ2 → zL a2 < 900 → ¬ σ2.1 22 mi 6 < 0 := by
    intro a2 σ2 h2 l2
    rw [h2.2.1.1]
    have : pos vM (a_i a2) (a_i a2).length ≤ zL a2 := pos_le
    exact i_nn (by omega)
  by_cases k59 : T.1 (a_p (aP a (a_p a + 1))) = 59
  · rw [if_pos k59, if_neg (by decide), if_pos k59, q_X13_gives_35, m_is h1 (by decide), bI_r]
    have e1 : ∀ r : zR, r = if T.1 (a_p (aP a (a_p a + 1))) = 59 then r else .inl (1, a_p (aP a (a_p a + 1))) := fun r => by rw [if_pos k59]
    rw [e1 (if g = 38 then _ else _)]
    refine mfV (d := d + 18) h1 bz (fun _ => ?_)
    have l1 := len_m h1 b1
    by_cases q : g = 38
    · rw [if_pos q, if_pos rfl, PM_cd h1, rq_t, if_neg (m22 h1 l1), m_bare (d := d + 19) h1 (by omega), bI_r, if_pos (show a_p (aP a (a_p a + 1)) = a_p a + 1 from rfl), if_neg (show ¬ (1 : Int32) = 0 by decide)]
      exact last 1 0 (g = 38) _ σ1 h1 l1 k59 ⟨fun z => absurd z (by decide), fun z => absurd q z⟩ (fun _ => ⟨fun _ => rfl, fun _ => q⟩) (Or.inl rfl) _
    · rw [if_neg q, m_fit (d := d + 16) (Or.inr (Or.inl rfl)) eok, bI_r]
      have hz : cFit 38 g = 0 := (cFit_z _ _).mpr (cFit_38l eok)
      exact last (cFit 38 g) 0 (g = 38) _ σ1 h1 l1 k59 ⟨fun _ => q, fun _ => hz⟩ (fun z => absurd z q) (Or.inl rfl) _
  · rw [if_neg k59, if_pos rfl, if_neg k59]
    refine mbIV (hE 20 _ σ1 h1 ho b1 hty) (fun u a2 σ2 e2 h2 => ?_)
    obtain ⟨w2, b2, l2, lt2, -, -, -, -, -⟩ := Exp_b (PM_len h1) b1 e2
    have V2 := V_X hT 11 _ _ _ (PM_len h1) hty e2
    rw [q_X13_gives_35, m_is h2 (by decide), bI_r]
    refine mfV (d := d + 18) h2 bz (fun k2 => ?_)
    by_cases q : g = 38
    · rw [if_pos q]
      have f0 := last 0 1 (g ≠ 38 ∧ cFit u g = 1) a2 σ2 h2 l2 k2 ⟨fun _ z => z.1 q, fun _ => rfl⟩ (fun z => absurd q z.1) (Or.inr rfl)
      by_cases q2 : u = 38
      · have lt2 : a_p a + 1 < a_p a2 := lt2
        rw [if_pos q2, PM_cd h2, rq_t, if_neg (m22 h2 l2), m_bare (d := d + 19) h2 (by omega), bI_r, if_neg (show ¬ a_p a2 = a_p a + 1 by omega), if_pos rfl]
        exact f0 _
      · rw [if_neg q2]
        exact f0 _
    · rw [if_neg q, m_fit (d := d + 16) V2 eok, bI_r]
      refine last (cFit u g) 1 (g ≠ 38 ∧ cFit u g = 1) a2 σ2 h2 l2 k2 ⟨fun z w => (cFit_z _ _).mp z w.2, fun z => (cFit_z _ _).mpr (fun w => z ⟨q, w⟩)⟩ (fun _ => ⟨fun z => absurd z q, fun z => absurd z (by decide)⟩) (Or.inr rfl) _
/-- say; x1: where it begins -/
theorem m_say (hT : TK T N) (hE : HM X d mi O T N (zX_ T 11) 0) (hS : SM mi O T N a σ) (hk : T.1 (a_p a) = 208) (ho : a_o a = 0) : SMV mi O T N (sm_bV (sm_callM X true (d + 20) 203 [vP (23, 0)] σ) sm_tw fun s18 => sm_bI (sm_callM X true (d + 20) 230 [vP (23, 0)] s18) sm_tw fun y19 s20 => sm_bI (sm_callM X true (d + 20) 204 [vP (23, 0), vI 59] s20) sm_tw fun y21 s22 => sm_bV (sm_callM X true (d + 20) 201 [vP (23, 0), vI y21] s22) sm_tw fun s24 => if y19 = 36 then sm_go (sm_ZZ X) sm_PP true (sm_callM X true (d + 20)) 218 164 [vP (23, 0), vI (Int32.ofNat (a_p a)), vI y19] [vI 1, vP (23, 0)] s24 else sm_bI (sm_callM X true (d + 20) 183 [vI y19] s24) sm_tw fun y25 s26 => if y25 = 0 then sm_go (sm_ZZ X) sm_PP true (sm_callM X true (d + 20)) 218 164 [vP (23, 0), vI (Int32.ofNat (a_p a)), vI y19] [vI 0, vP (23, 0)] s26 else sm_go (sm_ZZ X) sm_PP true (sm_callM X true (d + 20)) 218 164 [vP (23, 0), vI (Int32.ofNat (a_p a)), vI y19] [vI 1, vP (23, 0)] s26) (zSay T a) := by
  obtain ⟨h, hi, hb, hq, hne⟩ := hS
  have hty := tyA_of hi hq
  have hp0 := h.1.2.1
  have hp8 := PM_len h
  unfold zSay
  refine mnV (d := d + 18) hT h (by rw [hk]; decide) (by rw [hk]; decide) (fun σ1 n1 h1 => ?_)
  have b1 : zL (aP a (a_p a + 1)) ≤ a_p (aP a (a_p a + 1)) := by show zL a ≤ a_p a + 1; omega
  refine mbIV (hE 20 _ σ1 h1 ho b1 hty) (fun u a2 σ2 e2 h2 => ?_)
  obtain ⟨w2, b2, l2, lt2, -, -, -, -, -⟩ := Exp_b (PM_len h1) b1 e2
  have hp2 := h2.1.2.1
  have hp28 := PM_len h2
  rw [m_is h2 (by decide), bI_r]
  refine mfV (d := d + 18) h2 bz (fun k2 => ?_)
  have key : ∀ y : Int32, (y = 0 ↔ ¬ (u = 36 ∨ cRef u = 1)) → SMV mi O T N (sm_go (sm_ZZ X) sm_PP true (sm_callM X true (d + 20)) 218 164 [vP (23, 0), vI (Int32.ofNat (a_p a)), vI u] [vI y, vP (23, 0)] σ2) (if u = 36 ∨ cRef u = 1 then pb (zN a2) (fun _ a3 => .inr (0, zE a3 (if u = 36 then 22 else 23) 0 0 0 (T.2.2.2 (a_p a)))) else .inl (4, a_p a2)) := by
    intro y hy
    rw [q_X13_statement_164, if_pos rfl, PM_at h2]
    refine mtV (d := d + 18) h2 hy hp2 (by omega) (fun c1 => ?_)
    by_cases q : u = 36
    · rw [if_pos q, if_pos q]
      exact menV (d := d + 18) (op := 22) (tk := a_p a) (arg := 0) (ty := 0) (tgt := 0) hT h2 (by rw [k2]; decide) (by rw [k2]; decide) l2 rfl (Nat.zero_le _) rfl rfl rfl (Or.inr ⟨rfl, hp0, by omega, rfl⟩)
    · rw [if_neg q, if_neg q]
      exact menV (d := d + 18) (op := 23) (tk := a_p a) (arg := 0) (ty := 0) (tgt := 0) hT h2 (by rw [k2]; decide) (by rw [k2]; decide) l2 rfl (Nat.zero_le _) rfl rfl rfl (Or.inr ⟨rfl, hp0, by omega, rfl⟩)
  by_cases q : u = 36
  · rw [if_pos q]; exact key 1 ⟨fun z => absurd z (by decide), fun z => absurd (Or.inl q) z⟩
  · rw [if_neg q, m_isReference, bI_r]
    rcases cRef_01 u with z | z
    · rw [if_pos z]; exact key 0 ⟨fun _ w => w.elim q (fun w => absurd (z.symm.trans w) (by decide)), fun _ => rfl⟩
    · rw [if_neg (by rw [z]; decide)]; exact key 1 ⟨fun w => absurd w (by decide), fun w => absurd (Or.inr z) w⟩
/-- fail -/
theorem m_fail (hT : TK T N) (hE : HM X d mi O T N (zX_ T 11) 0) (hS : SM mi O T N a σ) (hk : T.1 (a_p a) = 209) (ho : a_o a = 0) : SMV mi O T N (sm_bV (sm_callM X true (d + 20) 203 [vP (23, 0)] σ) sm_tw fun s28 => sm_bI (sm_callM X true (d + 20) 230 [vP (23, 0)] s28) sm_tw fun y29 s30 => sm_bI (sm_callM X true (d + 20) 204 [vP (23, 0), vI 59] s30) sm_tw fun y31 s32 => sm_bV (sm_callM X true (d + 20) 201 [vP (23, 0), vI y31] s32) sm_tw fun s34 => if y29 = 36 then sm_go (sm_ZZ X) sm_PP true (sm_callM X true (d + 20)) 218 229 [vP (23, 0), vI (Int32.ofNat (a_p a)), vI y29] [vI 1, vP (23, 0)] s34 else sm_go (sm_ZZ X) sm_PP true (sm_callM X true (d + 20)) 218 229 [vP (23, 0), vI (Int32.ofNat (a_p a)), vI y29] [vI 0, vP (23, 0)] s34) (zFail T a) := by
  obtain ⟨h, hi, hb, hq, hne⟩ := hS
  have hty := tyA_of hi hq
  have hp0 := h.1.2.1
  have hp8 := PM_len h
  unfold zFail
  refine mnV (d := d + 18) hT h (by rw [hk]; decide) (by rw [hk]; decide) (fun σ1 n1 h1 => ?_)
  have b1 : zL (aP a (a_p a + 1)) ≤ a_p (aP a (a_p a + 1)) := by show zL a ≤ a_p a + 1; omega
  refine mbIV (hE 20 _ σ1 h1 ho b1 hty) (fun u a2 σ2 e2 h2 => ?_)
  obtain ⟨w2, b2, l2, lt2, -, -, -, -, -⟩ := Exp_b (PM_len h1) b1 e2
  have hp2 := h2.1.2.1
  have hp28 := PM_len h2
  rw [m_is h2 (by decide), bI_r]
  refine mfV (d := d + 18) h2 bz (fun k2 => ?_)
  have key : ∀ y : Int32, (y = 0 ↔ ¬ u = 36) → SMV mi O T N (sm_go (sm_ZZ X) sm_PP true (sm_callM X true (d + 20)) 218 229 [vP (23, 0), vI (Int32.ofNat (a_p a)), vI u] [vI y, vP (23, 0)] σ2) (if u = 36 then pb (zN a2) (fun _ a3 => .inr (0, zE a3 25 0 0 0 (T.2.2.2 (a_p a)))) else .inl (4, a_p a2)) := by
    intro y hy
    rw [q_X13_statement_229, if_pos rfl, PM_at h2]
    refine mtV (d := d + 18) h2 hy hp2 (by omega) (fun c1 => ?_)
    exact menV (d := d + 18) (op := 25) (tk := a_p a) (arg := 0) (ty := 0) (tgt := 0) hT h2 (by rw [k2]; decide) (by rw [k2]; decide) l2 rfl (Nat.zero_le _) rfl rfl rfl (Or.inr ⟨rfl, hp0, by omega, rfl⟩)
  by_cases q : u = 36
  · rw [if_pos q]; exact key 1 ⟨fun z => absurd z (by decide), fun z => absurd q z⟩
  · rw [if_neg q]; exact key 0 ⟨fun _ => q, fun _ => rfl⟩
/-- var -/
theorem m_var (hT : TK T N) (hE : HM X d mi O T N (zX_ T 11) 0) (hS : SM mi O T N a σ) (hk : T.1 (a_p a) = 201) (ho : a_o a = 0) : SMV mi O T N (sm_callM X true (d + 21) 219 [vP (23, 0)] σ) (zVar T a) := by
  obtain ⟨h, hi, hb, hq, hne⟩ := hS
  have hty := tyA_of hi hq
  rw [f_X13_variable_, q_X13_variable__0]
  unfold zVar
  refine mnV (d := d + 18) hT h (by rw [hk]; decide) (by rw [hk]; decide) (fun σ1 n1 h1 => ?_)
  refine mbIV (m_type (d := d + 16) hT h1) (fun t a2 σ2 e2 h2 => ?_)
  have tok : tyOk t := V_ty hT e2
  obtain ⟨d2, p2, E2⟩ := D_ty (PM_len h1) e2
  have lt2 := d2.1
  have p1' : a_p (aP a (a_p a + 1)) = a_p a + 1 := rfl
  unfold zNewN
  rw [pb_pb]
  refine mbVV (m_fresh (d := d + 17) hT h2) (fun _ a3 σ3 e3 h3 => ?_)
  obtain ⟨k3, f3, m3, E3⟩ := zFresh_inr e3
  have E3' : a3 = a2 := congrArg Prod.snd E3
  subst E3'
  have hn := hT.2.2.2.1 _ k3
  rw [PM_ix h3, PM_nm h3 k3, pb_pb]
  refine mnV (d := d + 18) hT h3 (by rw [k3]; decide) (by rw [k3]; decide) (fun σ4 n4 h4 => ?_)
  rw [pb_r]
  have hm24 : a_m a3 ≤ 24 := h4.2.2.2.1.2.2.1
  have h4 : PM mi O T N (aX (aP a3 (a_p a3 + 1)) (some (T.2.1 (a_p a3), t))) σ4 := h4
  have p4 : a_p (aX (aP a3 (a_p a3 + 1)) (some (T.2.1 (a_p a3), t))) = a_p a3 + 1 := rfl
  have z4 : zL (aX (aP a3 (a_p a3 + 1)) (some (T.2.1 (a_p a3), t))) = zL a := by rw [E2]; rfl
  have o4 : a_o (aX (aP a3 (a_p a3 + 1)) (some (T.2.1 (a_p a3), t))) = 0 := by rw [E2]; exact ho
  have m4 : a_m (aX (aP a3 (a_p a3 + 1)) (some (T.2.1 (a_p a3), t))) = a_m a3 := rfl
  have t4 : tyA (aX (aP a3 (a_p a3 + 1)) (some (T.2.1 (a_p a3), t))) := by rw [E2]; exact hty
  generalize aX (aP a3 (a_p a3 + 1)) (some (T.2.1 (a_p a3), t)) = a4 at *
  have hp4 := h4.1.2.1
  have hp48 := PM_len h4
  refine mbVV (m_must (d := d + 17) hT h4 (by decide)) (fun _ a5 σ5 e5 h5 => ?_)
  obtain ⟨k5, n5, E5⟩ := zMust_inr.mp e5
  have E5 : a5 = aP a4 (a_p a4 + 1) := congrArg Prod.snd E5
  have o5 : a_o a5 = 0 := by rw [E5]; exact o4
  have b5 : zL a5 ≤ a_p a5 := by rw [E5]; show zL a4 ≤ a_p a4 + 1; omega
  have t5 : tyA a5 := by rw [E5]; exact t4
  have m5 : a_m a5 = a_m a3 := by rw [E5]; exact m4
  refine mbIV (hE 20 a5 σ5 h5 o5 b5 t5) (fun u a6 σ6 e6 h6 => ?_)
  obtain ⟨w6, b6, l6, lt6, -, m6, -, -, -⟩ := Exp_b (PM_len h5) b5 e6
  have V6 := V_X hT 11 _ _ _ (PM_len h5) t5 e6
  have hp6 := h6.1.2.1
  have hp68 := PM_len h6
  rw [m_is h6 (by decide), bI_r]
  refine mfV (d := d + 18) h6 bz (fun k6 => ?_)
  rw [m_fit (d := d + 16) V6 tok, bI_r, PM_at h6]
  refine mtV (d := d + 18) h6 (cFit_z _ _) hp6 (by omega) (fun c6 => ?_)
  rw [h6.2.2.2.1.1, m6, m5, PM_at h4, zN_sw (k := fun _ a7 => .inr (0, zKnow (T.2.1 (a_p a3)) t a7))]
  refine meV (d := d + 19) (op := 6) (tk := a_p a4) (arg := Int32.ofNat (a_m a3)) (ty := t) (pl := T.2.2.2 (a_p a4)) (tgt := 0) h6 l6 rfl (Nat.zero_le _) rfl rfl rfl (Or.inr ⟨rfl, hp4, by omega, rfl⟩) (fun σ7 h7 => ?_)
  refine mnV (d := d + 18) hT h7 (by show T.1 (a_p a6) ≠ 6; rw [k6]; decide) (by show T.1 (a_p a6) ≠ 7; rw [k6]; decide) (fun σ8 n8 h8 => ?_)
  have m8 : a_m a6 < 24 := by rw [m6, m5]; omega
  obtain ⟨σ9, e9, h9⟩ := m_knows (X := X) (d := d + 19) (t := t) hn h8 m8
  rw [e9, bV_r]
  exact ⟨_, rfl, h9⟩
end
