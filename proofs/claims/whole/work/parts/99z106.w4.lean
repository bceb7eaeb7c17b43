section
/-! EXPRESSIONS IN THE REFERENCE: the small steps, in the shape in which the reading tells them -/
variable {X : Nat × (Nat → Int32)} {d : Nat} {s σ : sm_S} {mi N : Nat} {O : Nat → Nat → Nat → Int32} {T : zT} {a b : zA} {t : Int32} {sub : zA → zR}
theorem bz {c : Prop} [Decidable c] : (if c then (1 : Int32) else 0) = 0 ↔ ¬ c := by
  by_cases q : c
  · rw [if_pos q]; exact ⟨fun z => absurd z (by decide), fun z => absurd q z⟩
  · rw [if_neg q]; exact ⟨fun _ => q, fun _ => rfl⟩
theorem mfI {x : Int32} {c : Prop} [Decidable c] {k : sm_S → sm_R} {z : zR} (h : PM mi O T N a σ) (hx : x = 0 ↔ ¬ c) (hk : c → SMI mi O T N (k σ) z) : SMI mi O T N (sm_bV (sm_callM X true (d + 2) 201 [vP (23, 0), vI x] σ) sm_tw k) (if c then z else .inl (1, a_p a)) := by
  rw [f_X13_form, q_X13_form_0, PM_at h]
  by_cases q : c
  · rw [if_neg (fun z => (hx.mp z) q), if_pos q]
    exact hk q
  · rw [if_pos (hx.mpr q), if_neg q]
    obtain ⟨σ', e, F⟩ := m_throw (X := X) (d := d) (f := 1) (tk := a_p a) h h.1.2.1 (by have := PM_len h; omega)
    rw [e]
    exact ⟨σ', rfl, F⟩
theorem mfV {x : Int32} {c : Prop} [Decidable c] {k : sm_S → sm_R} {z : zR} (h : PM mi O T N a σ) (hx : x = 0 ↔ ¬ c) (hk : c → SMV mi O T N (k σ) z) : SMV mi O T N (sm_bV (sm_callM X true (d + 2) 201 [vP (23, 0), vI x] σ) sm_tw k) (if c then z else .inl (1, a_p a)) := by
  rw [f_X13_form, q_X13_form_0, PM_at h]
  by_cases q : c
  · rw [if_neg (fun z => (hx.mp z) q), if_pos q]
    exact hk q
  · rw [if_pos (hx.mpr q), if_neg q]
    obtain ⟨σ', e, F⟩ := m_throw (X := X) (d := d) (f := 1) (tk := a_p a) h h.1.2.1 (by have := PM_len h; omega)
    rw [e]
    exact ⟨σ', rfl, F⟩
theorem mtI {x : Int32} {tk : Nat} {c : Prop} [Decidable c] {k : sm_S → sm_R} {z : zR} (h : PM mi O T N a σ) (hx : x = 0 ↔ ¬ c) (ht : tk ≤ N) (ht8 : tk ≤ 801) (hk : c → SMI mi O T N (k σ) z) : SMI mi O T N (sm_bV (sm_callM X true (d + 2) 202 [vP (23, 0), vI x, vI (Int32.ofNat tk)] σ) sm_tw k) (if c then z else .inl (4, tk)) := by
  rw [f_X13_types, q_X13_types_0]
  by_cases q : c
  · rw [if_neg (fun z => (hx.mp z) q), if_pos q]
    exact hk q
  · rw [if_pos (hx.mpr q), if_neg q]
    obtain ⟨σ', e, F⟩ := m_throw (X := X) (d := d) (f := 4) (tk := tk) h ht ht8
    rw [e]
    exact ⟨σ', rfl, F⟩
theorem mtV {x : Int32} {tk : Nat} {c : Prop} [Decidable c] {k : sm_S → sm_R} {z : zR} (h : PM mi O T N a σ) (hx : x = 0 ↔ ¬ c) (ht : tk ≤ N) (ht8 : tk ≤ 801) (hk : c → SMV mi O T N (k σ) z) : SMV mi O T N (sm_bV (sm_callM X true (d + 2) 202 [vP (23, 0), vI x, vI (Int32.ofNat tk)] σ) sm_tw k) (if c then z else .inl (4, tk)) := by
  rw [f_X13_types, q_X13_types_0]
  by_cases q : c
  · rw [if_neg (fun z => (hx.mp z) q), if_pos q]
    exact hk q
  · rw [if_pos (hx.mpr q), if_neg q]
    obtain ⟨σ', e, F⟩ := m_throw (X := X) (d := d) (f := 4) (tk := tk) h ht ht8
    rw [e]
    exact ⟨σ', rfl, F⟩
theorem mnI {k : sm_S → sm_R} {k' : Int32 → zA → zR} (hT : TK T N) (h : PM mi O T N a σ) (h6 : T.1 (a_p a) ≠ 6) (h7 : T.1 (a_p a) ≠ 7) (hk : ∀ σ', a_p a ≠ 800 → PM mi O T N (aP a (a_p a + 1)) σ' → SMI mi O T N (k σ') (k' 0 (aP a (a_p a + 1)))) : SMI mi O T N (sm_bV (sm_callM X true (d + 2) 203 [vP (23, 0)] σ) sm_tw k) (pb (zN a) k') :=
  mbVI (m_next hT h h6 h7) (fun y a1 σ1 e1 h1 => by
    obtain ⟨n1, e1⟩ := zN_inr.mp e1
    cases e1
    exact hk σ1 n1 h1)
theorem mnV {k : sm_S → sm_R} {k' : Int32 → zA → zR} (hT : TK T N) (h : PM mi O T N a σ) (h6 : T.1 (a_p a) ≠ 6) (h7 : T.1 (a_p a) ≠ 7) (hk : ∀ σ', a_p a ≠ 800 → PM mi O T N (aP a (a_p a + 1)) σ' → SMV mi O T N (k σ') (k' 0 (aP a (a_p a + 1)))) : SMV mi O T N (sm_bV (sm_callM X true (d + 2) 203 [vP (23, 0)] σ) sm_tw k) (pb (zN a) k') :=
  mbVV (m_next hT h h6 h7) (fun y a1 σ1 e1 h1 => by
    obtain ⟨n1, e1⟩ := zN_inr.mp e1
    cases e1
    exact hk σ1 n1 h1)
theorem meI {op tk : Nat} {arg ty pl o g x3 : Int32} {tgt : Nat} {k : Int32 → sm_S → sm_R} {z : zR} (h : PM mi O T N a σ) (hl : zL a < 900) (hv : vM op = true) (ht : tgt ≤ zL a) (ho : o = Int32.ofNat (mOp (op, arg, tgt, pl, ty, gNow a))) (hg : g = mNum (a_i a) (op, arg, tgt, pl, ty, gNow a)) (hs : mSec (op, arg, tgt, pl, ty, gNow a) = 0) (hx : (x3 = -1 ∧ pl = -1) ∨ (x3 = Int32.ofNat tk ∧ tk ≤ N ∧ tk ≤ 801 ∧ pl = T.2.2.2 tk)) (hk : ∀ σ', PM mi O T N (zE a op arg tgt ty pl) σ' → SMI mi O T N (k (Int32.ofNat (pos vM (a_i a) (zL a))) σ') z) : SMI mi O T N (sm_bI (sm_callM X true (d + 1) 207 [vP (23, 0), vI o, vI g, vI x3] σ) sm_tw k) z := by
  obtain ⟨σ1, e1, h1⟩ := m_em (X := X) (d := d) h hl hv ht ho hg hs hx
  rw [e1, bI_r]
  exact hk σ1 h1
theorem meV {op tk : Nat} {arg ty pl o g x3 : Int32} {tgt : Nat} {k : Int32 → sm_S → sm_R} {z : zR} (h : PM mi O T N a σ) (hl : zL a < 900) (hv : vM op = true) (ht : tgt ≤ zL a) (ho : o = Int32.ofNat (mOp (op, arg, tgt, pl, ty, gNow a))) (hg : g = mNum (a_i a) (op, arg, tgt, pl, ty, gNow a)) (hs : mSec (op, arg, tgt, pl, ty, gNow a) = 0) (hx : (x3 = -1 ∧ pl = -1) ∨ (x3 = Int32.ofNat tk ∧ tk ≤ N ∧ tk ≤ 801 ∧ pl = T.2.2.2 tk)) (hk : ∀ σ', PM mi O T N (zE a op arg tgt ty pl) σ' → SMV mi O T N (k (Int32.ofNat (pos vM (a_i a) (zL a))) σ') z) : SMV mi O T N (sm_bI (sm_callM X true (d + 1) 207 [vP (23, 0), vI o, vI g, vI x3] σ) sm_tw k) z := by
  obtain ⟨σ1, e1, h1⟩ := m_em (X := X) (d := d) h hl hv ht ho hg hs hx
  rw [e1, bI_r]
  exact hk σ1 h1
theorem mThI {f : Int32} {tk : Nat} (h : PM mi O T N a σ) (ht : tk ≤ N) (ht8 : tk ≤ 801) : SMI mi O T N (sm_bP (sm_callM X true (d + 1) 200 [vP (23, 0), vI f, vI (Int32.ofNat tk)] σ) sm_tw fun y1 s2 => sm_rq y1 24 fun _ => sm_tw s2) (.inl (f, tk)) := m_throw h ht ht8
theorem mThV {f : Int32} {tk : Nat} (h : PM mi O T N a σ) (ht : tk ≤ N) (ht8 : tk ≤ 801) : SMV mi O T N (sm_bP (sm_callM X true (d + 1) 200 [vP (23, 0), vI f, vI (Int32.ofNat tk)] σ) sm_tw fun y1 s2 => sm_rq y1 24 fun _ => sm_tw s2) (.inl (f, tk)) := m_throw h ht ht8
/-! types -/
theorem ty39 (h : tyOk t) : ∃ n, n < 39 ∧ t = Int32.ofNat n := by
  rcases h with rfl | rfl | h
  · exact ⟨36, by omega, rfl⟩
  · exact ⟨38, by omega, rfl⟩
  · by_cases q : t = 37
    · exact ⟨37, by omega, q⟩
    · have h1 : ¬ t < 0 ∧ t < 36 := by
        unfold cRef at h
        by_cases q1 : t < 0
        · rw [if_pos q1, if_neg q] at h; exact absurd h (by decide)
        · rw [if_neg q1] at h
          by_cases q2 : t < 36
          · exact ⟨q1, q2⟩
          · rw [if_neg q2, if_neg q] at h; exact absurd h (by decide)
      obtain ⟨h1, h2⟩ := h1
      rw [Int32.lt_iff_toInt_lt] at h1 h2
      have e0 : (0 : Int32).toInt = 0 := rfl
      have e36 : (36 : Int32).toInt = 36 := rfl
      rw [e0] at h1; rw [e36] at h2
      refine ⟨t.toInt.toNat, by omega, ?_⟩
      apply Int32.toInt_inj.mp
      rw [Int32.toInt_ofNat_of_lt (by omega)]
      omega
theorem m_fit {u v : Int32} (hu : tyOk u) (hv : tyOk v) : sm_callM X true (d + 4) 185 [vI u, vI v] s = rI (cFit u v) s := by
  obtain ⟨n, hn, rfl⟩ := ty39 hu
  obtain ⟨m, hm, rfl⟩ := ty39 hv
  rw [m_fits n _ hn, kin_fit n hn m hm]
theorem m_ask {u v : Int32} (hu : tyOk u) (hv : tyOk v) (h37 : v ≠ 37) (h38 : v ≠ 38) : sm_callM X true (d + 4) 186 [vI u, vI v] s = rI (cAsk u v) s := by
  obtain ⟨n, hn, rfl⟩ := ty39 hu
  obtain ⟨m, hm, rfl⟩ := ty39 hv
  have hm7 : m < 37 := by
    rcases Nat.lt_or_ge m 37 with z | z
    · exact z
    · rcases (show m = 37 ∨ m = 38 by omega) with w | w
      · rw [w] at h37; exact absurd rfl h37
      · rw [w] at h38; exact absurd rfl h38
  rw [m_mayBe n m hn hm, kin_ask n hn m hm7]
theorem aS_id {n : Nat} (h : a_s a = n) : aS a n = a := by subst h; rfl
theorem PM_sid {n : Nat} (h : PM mi O T N a σ) (hs : a_s a = n) : PM mi O T N (aS a n) σ := by rw [aS_id hs]; exact h
theorem aW_id (h : a_w a = (0, 0, 0, 0)) : aW a (0, 0, 0, 0) = a := by rw [← h]; rfl
theorem PM_s0 (h : PM mi O T N a σ) : PM mi O T N (aS a 0) (sI σ 23 0 20 0) := PM_sh (n := 0) h
theorem PM_close (h : PM mi O T N a σ) (h1 : 1 ≤ a_o a) (h10 : a_o a ≤ 10) : PM mi O T N (aO a (a_o a - 1)) (sI σ 23 0 13 (σ.1 23 0 13 - 1)) := by
  obtain ⟨n, hn⟩ : ∃ n, a_o a = n + 1 := ⟨a_o a - 1, by omega⟩
  rw [PM_o h h10, hn, i_pred]
  exact PM_op h
/-- a number; p0: where it begins -/
theorem m_number {p0 : Nat} {x2 v : Int32} (hT : TK T N) (h : PM mi O T N a σ) (hk : T.1 (a_p a) = 4) (hl : zL a < 900) (hp : p0 ≤ N) (hp8 : p0 ≤ 801) (hx : (x2 = 0 ∧ v = (T.2.2.1 (a_p a)).toInt32) ∨ (x2 = 1 ∧ v = -(T.2.2.1 (a_p a)).toInt32)) : SMI mi O T N (sm_callM X true (d + 3) 235 [vP (23, 0), vI (Int32.ofNat p0), vI x2] σ) (zNum T p0 v a) := by
  have e7 : σ.2.1 70 0 (a_p a) = T.2.2.1 (a_p a) := by
    rw [PM_vl h (by rw [hk]; decide)]; unfold mvl; rw [hk, if_neg (by decide), if_neg (by decide), if_pos (by decide)]
  rw [f_X13_number, q_X13_number_0]
  unfold zNum
  rcases hx with ⟨rfl, rfl⟩ | ⟨rfl, rfl⟩
  · rw [if_pos rfl, PM_ix h, e7]
    refine meI (d := d + 1) (op := 4) (tk := p0) (ty := 36) (tgt := 0) (pl := T.2.2.2 p0) (arg := (T.2.2.1 (a_p a)).toInt32) h hl rfl (Nat.zero_le _) rfl rfl rfl (Or.inr ⟨rfl, hp, hp8, rfl⟩) (fun σ1 h1 => ?_)
    exact mnI (d := d) hT h1 (by show T.1 (a_p a) ≠ 6; rw [hk]; decide) (by show T.1 (a_p a) ≠ 7; rw [hk]; decide) (fun σ2 _ h2 => ⟨_, rfl, h2⟩)
  · rw [if_neg (by decide), PM_ix h, e7]
    refine meI (d := d + 1) (op := 4) (tk := p0) (ty := 36) (tgt := 0) (pl := T.2.2.2 p0) (arg := -(T.2.2.1 (a_p a)).toInt32) h hl rfl (Nat.zero_le _) rfl (Int64.toInt32_neg _) rfl (Or.inr ⟨rfl, hp, hp8, rfl⟩) (fun σ1 h1 => ?_)
    exact mnI (d := d) hT h1 (by show T.1 (a_p a) ≠ 6; rw [hk]; decide) (by show T.1 (a_p a) ≠ 7; rw [hk]; decide) (fun σ2 _ h2 => ⟨_, rfl, h2⟩)
/-- what is below, o begun -/
def HM (X : Nat × (Nat → Int32)) (d mi : Nat) (O : Nat → Nat → Nat → Int32) (T : zT) (N : Nat) (sub : zA → zR) (o : Nat) : Prop := ∀ e a σ, PM mi O T N a σ → a_o a = o → zL a ≤ a_p a → tyA a → SMI mi O T N (sm_callM X true (d + e) 230 [vP (23, 0)] σ) (sub a)
theorem HM_le {o n : Nat} (h : HM X d mi O T N sub o) : HM X (d + n) mi O T N sub o := fun e a σ => by
  rw [Nat.add_assoc]; exact h (n + e) a σ
theorem len_m (h : PM mi O T N a σ) (hb : zL a ≤ a_p a) : zL a < 900 := by
  have := PM_len h; omega
theorem w36 (hT : TK T N) {p : Nat} (h : T.1 p = 5) : T.2.2.1 p = 36 ↔ tV T p = 36 := by
  unfold tV
  rcases hT.2.2.2.2.1 p h with ⟨k, hk, e⟩ | e
  · rw [e, Int32.toInt32_toInt64]
    constructor
    · intro z
      exact i64_inj z
    · intro z; rw [z]; rfl
  · rw [e]; decide
/-- new T -/
theorem m_makes (hT : TK T N) (hD : SubD sub) (h : PM mi O T N a σ) (hk : T.1 (a_p a) = 210) (ho : a_o a ≤ 10) (hs : a_o a < 10 → HM X d mi O T N sub (a_o a + 1)) (hs0 : a_s a = 0) (hb : zL a ≤ a_p a) (hty : tyA a) : SMI mi O T N (sm_callM X true (d + 11) 237 [vP (23, 0)] σ) (zNew T sub a) := by
  rw [f_X13_makes, q_X13_makes_0]
  unfold zNew
  refine mnI (d := d + 8) hT h (by rw [hk]; decide) (by rw [hk]; decide) (fun σ1 n1 h1 => ?_)
  have hp0 := h.1.2.1
  have hp8 := PM_len h
  have b1 : zL (aP a (a_p a + 1)) ≤ a_p (aP a (a_p a + 1)) := by show zL a ≤ a_p a + 1; omega
  have t1 : tyA (aP a (a_p a + 1)) := hty
  have s1 : a_s (aP a (a_p a + 1)) = 0 := hs0
  have o1 : a_o (aP a (a_p a + 1)) = a_o a := rfl
  generalize aP a (a_p a + 1) = a1 at h1 b1 t1 s1 o1 ⊢
  have key : ∀ x : Int32, (x = 0 ↔ ¬ (T.1 (a_p a1) = 5 ∧ tV T (a_p a1) ≠ 36)) → SMI mi O T N (sm_go (sm_ZZ X) sm_PP true (sm_callM X true (d + 10)) 237 44 [vP (23, 0), vI (σ.1 23 0 11), vU, vU] [vI x, vP (23, 0)] σ1) (if T.1 (a_p a1) = 5 ∧ tV T (a_p a1) ≠ 36 then
    pb (zN a1) (fun _ a2 => if T.1 (a_p a2) = 40 ∧ tV T (a_p a1) < 13 then
        pb (zOpens T 40 a2) (fun _ a3 => if T.1 (a_p a3) = 41 then pb (zN (aO a3 (a_o a3 - 1))) (fun _ a4 => .inr (tV T (a_p a1), aS (zE a4 20 (tV T (a_p a1)) 0 (tV T (a_p a1)) (T.2.2.2 (a_p a))) 0)) else .inl (1, a_p a3))
      else pb (zOpens T 91 a2) (fun _ a3 => pb (sub a3) (fun t a4 => if T.1 (a_p a4) = 93 then (if t = 36 then pb (zN (aO a4 (a_o a4 - 1))) (fun _ a5 => .inr (18 + tV T (a_p a1), aS (zE a5 21 (tV T (a_p a1)) 0 (18 + tV T (a_p a1)) (T.2.2.2 (a_p a))) 0)) else .inl (4, a_p a4)) else .inl (1, a_p a4))))
    else .inl (1, a_p a1)) := by
    intro x hx
    rw [q_X13_makes_44, if_pos rfl]
    refine mfI (d := d + 8) h1 hx (fun c1 => ?_)
    rw [PM_ix h1, PM_ty h1 c1.1]
    refine mnI (d := d + 8) hT h1 (by rw [c1.1]; decide) (by rw [c1.1]; decide) (fun σ2 n2 h2 => ?_)
    have b2 : zL (aP a1 (a_p a1 + 1)) ≤ a_p (aP a1 (a_p a1 + 1)) := by show zL a1 ≤ a_p a1 + 1; omega
    have t2 : tyA (aP a1 (a_p a1 + 1)) := t1
    have s2 : a_s (aP a1 (a_p a1 + 1)) = 0 := s1
    have o2 : a_o (aP a1 (a_p a1 + 1)) = a_o a := o1
    generalize aP a1 (a_p a1 + 1) = a2 at h2 b2 t2 s2 o2 ⊢
    have fin : ∀ v : sm_V, SMI mi O T N (sm_go (sm_ZZ X) sm_PP true (sm_callM X true (d + 10)) 237 118 [vP (23, 0), vI (σ.1 23 0 11), vI (T.2.2.1 (a_p a1)).toInt32, v] [] σ2) (pb (zOpens T 91 a2) (fun _ a3 => pb (sub a3) (fun t a4 => if T.1 (a_p a4) = 93 then (if t = 36 then pb (zN (aO a4 (a_o a4 - 1))) (fun _ a5 => .inr (18 + tV T (a_p a1), aS (zE a5 21 (tV T (a_p a1)) 0 (18 + tV T (a_p a1)) (T.2.2.2 (a_p a))) 0)) else .inl (4, a_p a4)) else .inl (1, a_p a4)))) := by
      intro v
      rw [q_X13_makes_118]
      refine mbVI (m_opens (d := d + 7) hT h2 (by decide) (by omega)) (fun _ a3 σ3 e3 h3 => ?_)
      obtain ⟨c3, n3, e3⟩ := zOpens_inr.mp e3
      have E3 : a3 = aP (aO a2 (a_o a2 + 1)) (a_p a2 + 1) := congrArg Prod.snd e3
      have b3 : zL a3 ≤ a_p a3 := by rw [E3]; show zL a2 ≤ a_p a2 + 1; omega
      have t3 : tyA a3 := by rw [E3]; exact t2
      have o3 : a_o a3 = a_o a + 1 := by rw [E3]; show a_o a2 + 1 = _; rw [o2]
      refine mbII (hs (by omega) 10 a3 σ3 h3 o3 b3 t3) (fun u a4 σ4 e4 h4 => ?_)
      obtain ⟨-, b4, t4, l4, o4, -, -⟩ := sub_b hD (PM_len h3) b3 t3 e4
      rw [m_is h4 (by decide), bI_r]
      refine mfI (d := d + 8) h4 bz (fun c4 => ?_)
      have key2 : ∀ y : Int32, (y = 0 ↔ ¬ u = 36) → SMI mi O T N (sm_go (sm_ZZ X) sm_PP true (sm_callM X true (d + 10)) 237 151 [vP (23, 0), vI (σ.1 23 0 11), vI (T.2.2.1 (a_p a1)).toInt32, vI u] [vI y, vP (23, 0)] σ4) (if u = 36 then pb (zN (aO a4 (a_o a4 - 1))) (fun _ a5 => .inr (18 + tV T (a_p a1), aS (zE a5 21 (tV T (a_p a1)) 0 (18 + tV T (a_p a1)) (T.2.2.2 (a_p a))) 0)) else .inl (4, a_p a4)) := by
        intro y hy
        have hp4 := h4.1.2.1
        have hp48 := PM_len h4
        rw [q_X13_makes_151, if_pos rfl, PM_at h4, PM_at h]
        refine mtI (d := d + 8) h4 hy hp4 (by omega) (fun c5 => ?_)
        refine mnI (d := d + 8) hT (PM_close h4 (by omega) (by omega)) (by show T.1 (a_p a4) ≠ 6; rw [c4]; decide) (by show T.1 (a_p a4) ≠ 7; rw [c4]; decide) (fun σ5 n5 h5 => ?_)
        refine meI (d := d + 9) (op := 21) (tk := a_p a) (arg := tV T (a_p a1)) (ty := 18 + tV T (a_p a1)) (pl := T.2.2.2 (a_p a)) (tgt := 0) h5 l4 rfl (Nat.zero_le _) rfl rfl rfl (Or.inr ⟨rfl, hp0, by omega, rfl⟩) (fun σ6 h6 => ?_)
        exact ⟨_, rfl, PM_s0 h6⟩
      by_cases q : u = 36
      · rw [if_pos q]; exact key2 1 ⟨fun z => absurd z (by decide), fun z => absurd q z⟩
      · rw [if_neg q]; exact key2 0 ⟨fun _ => q, fun _ => rfl⟩
    rw [m_is h2 (by decide), bI_r]
    by_cases k40 : T.1 (a_p a2) = 40
    · rw [if_pos k40, if_neg (by decide)]
      show SMI mi O T N (if tV T (a_p a1) < 13 then _ else _) _
      by_cases k13 : tV T (a_p a1) < 13
      · rw [if_pos k13, if_pos ⟨k40, k13⟩]
        refine mbVI (m_opens (d := d + 7) hT h2 (by decide) (by omega)) (fun _ a3 σ3 e3 h3 => ?_)
        obtain ⟨c3, n3, e3⟩ := zOpens_inr.mp e3
        have E3 : a3 = aP (aO a2 (a_o a2 + 1)) (a_p a2 + 1) := congrArg Prod.snd e3
        have b3 : zL a3 ≤ a_p a3 := by rw [E3]; show zL a2 ≤ a_p a2 + 1; omega
        have o3 : a_o a3 = a_o a + 1 := by rw [E3]; show a_o a2 + 1 = _; rw [o2]
        have s3 : a_s a3 = 0 := by rw [E3]; exact s2
        have l3 := len_m h3 b3
        rw [m_is h3 (by decide), bI_r]
        refine mfI (d := d + 8) h3 bz (fun c4 => ?_)
        refine mnI (d := d + 8) hT (PM_close h3 (by omega) (by omega)) (by show T.1 (a_p a3) ≠ 6; rw [c4]; decide) (by show T.1 (a_p a3) ≠ 7; rw [c4]; decide) (fun σ5 n5 h5 => ?_)
        rw [PM_at h]
        refine meI (d := d + 9) (op := 20) (tk := a_p a) (arg := tV T (a_p a1)) (ty := tV T (a_p a1)) (pl := T.2.2.2 (a_p a)) (tgt := 0) h5 l3 rfl (Nat.zero_le _) rfl rfl rfl (Or.inr ⟨rfl, hp0, by omega, rfl⟩) (fun σ6 h6 => ?_)
        exact ⟨σ6, rfl, PM_sid h6 s3⟩
      · rw [if_neg k13, if_neg (fun z => k13 z.2)]
        exact fin _
    · rw [if_neg k40, if_pos rfl, if_neg (fun z => k40 z.1)]
      exact fin _
  rw [PM_ix h1, PM_kd h1]
  by_cases q : T.1 (a_p a1) = 5
  · rw [if_pos ((mkd_v _).2.1.mpr q), PM_ix h1, PM_ty h1 q]
    by_cases q2 : tV T (a_p a1) = 36
    · rw [if_pos ((lgc _ _).mpr ((w36 hT q).mpr q2))]
      exact key 0 ⟨fun _ z => z.2 q2, fun _ => rfl⟩
    · rw [if_neg (fun z => q2 ((w36 hT q).mp ((lgc _ _).mp z)))]
      exact key 1 ⟨fun z => absurd z (by decide), fun z => absurd ⟨q, q2⟩ z⟩
  · rw [if_neg (fun z => q ((mkd_v _).2.1.mp z))]
    exact key 0 ⟨fun _ z => q z.1, fun _ => rfl⟩
end
