section
/-! ACTS, IF AND WHILE IN THE REFERENCE -/
variable {X : Nat × (Nat → Int32)} {d : Nat} {s σ : sm_S} {mi N : Nat} {O : Nat → Nat → Nat → Int32} {T : zT} {a b : zA} {t : Int32} {blk : zA → zR}
theorem V_unit {sub : zA → zR} (hT : TK T N) (hs : SubV sub) (hp : a_p a ≤ 800) (k : tyA a) {y : Int32} (h : zUnit T sub a = .inr (y, b)) : tyOk y := by
  unfold zUnit at h
  rw [pb_inr] at h
  obtain ⟨t1, a1, e1, e2⟩ := h
  exact V_UL hT _ _ _ _ _ (V_first hT hs hp k e1) e2
theorem if_not' {P : Prop} [Decidable P] (x z : zR) : (if P then x else z) = if ¬ P then z else x := by
  by_cases q : P
  · rw [if_pos q, if_neg (fun w => w q)]
  · rw [if_neg q, if_pos q]
theorem m_acts (hT : TK T N) (hE : HM X d mi O T N (zX_ T 11) 0) (hE1 : HM X d mi O T N (zX_ T 10) 1) (hS : SM mi O T N a σ) (ho : a_o a = 0) : SMV mi O T N (sm_callM X true (d + 21) 228 [vP (23, 0)] σ) (zActs T a) := by
  obtain ⟨h, hi, hb, hq, hne⟩ := hS
  have hty := tyA_of hi hq
  rw [f_X13_acts, q_X13_acts_0]
  unfold zActs
  refine mbIV (m_unit (d := d + 6) (o := 0) hT (D_X 10) (V_X hT 10) (by omega) (fun _ => HM_le hE1) h ho hb hty) (fun t a1 σ1 e1 h1 => ?_)
  obtain ⟨⟨x1, x2, x3, x4⟩, w1⟩ := D_unit (D_X 10) (PM_len h) e1
  have V1 := V_unit hT (V_X hT 10) (PM_len h) hty e1
  have z1 : zL a1 ≤ nW a1 := Nat.le_add_right _ _
  have b1 : zL a1 ≤ a_p a1 := by omega
  have l1 := len_m h1 b1
  have o1 : a_o a1 = 0 := x1.2.2.2.2.2.2.2.1.trans ho
  have t1 := tyA_eq x1 hty
  have hp1 := h1.1.2.1
  have hp18 := PM_len h1
  have sh4 : a_s a1 ≤ 4 := by rcases w1 with ⟨-, w | w⟩ | ⟨-, w⟩ | ⟨-, w, -⟩ | ⟨-, w⟩ <;> omega
  have hsh : σ1.1 23 0 20 = Int32.ofNat (a_s a1) := h1.2.2.2.2.1.2.2.1 sh4
  have h22 : a_s a1 = 1 ∨ a_s a1 = 2 ∨ a_s a1 = 3 → σ1.1 23 0 22 = (a_w a1).2.1 := by
    intro z
    have : (a_w a1).1 = 5 ∨ (a_w a1).1 = 15 ∨ (a_w a1).1 = 17 := by
      rcases w1 with ⟨-, w | w⟩ | ⟨w, -⟩ | ⟨w, -⟩ | ⟨w, -⟩
      · omega
      · omega
      · exact Or.inl w
      · exact Or.inr (Or.inl w)
      · exact Or.inr (Or.inr w)
    exact (h1.2.2.2.2.1.2.2.2.2 this).2.1
  have sd : ∀ n, n ≤ 4 → ((Int32.ofNat n = 1 ↔ n = 1) ∧ (Int32.ofNat n = 2 ↔ n = 2) ∧ (Int32.ofNat n = 3 ↔ n = 3) ∧ (Int32.ofNat n = 4 ↔ n = 4)) := by decide
  obtain ⟨s1, s2, s3, s4⟩ := sd _ sh4
  rw [hsh, m_is h1 (by decide), bI_r]
  by_cases k61 : T.1 (a_p a1) = 61
  · rw [if_pos k61, if_neg (by decide), if_pos k61, PM_at h1]
    have key : ∀ y : Int32, (y = 0 ↔ ¬ (a_s a1 = 1 ∨ a_s a1 = 2 ∨ a_s a1 = 3)) → SMV mi O T N (sm_go (sm_ZZ X) sm_PP true (sm_callM X true (d + 20)) 228 51 [vP (23, 0), vI t, vI (Int32.ofNat (a_s a1)), vI (σ1.1 23 0 22), vI (Int32.ofNat (a_p a1)), vU] [vI y, vP (23, 0)] σ1) (if a_s a1 = 1 ∨ a_s a1 = 2 ∨ a_s a1 = 3 then
        (if a_s a1 = 3 ∧ ((a_w a1).2.1 = 2 ∨ (a_w a1).2.1 = 3 ∨ (a_w a1).2.1 = 4) then .inl (4, a_p a1) else
          pb (zN (aW a1 (0, 0, 0, 0))) (fun _ a2 => pb (zExp T a2) (fun u a3 => if T.1 (a_p a3) = 59 then (if cFit u t = 1 then pb (zN a3) (fun _ a4 => .inr (0, zE a4 (if a_s a1 = 1 then 6 else if a_s a1 = 2 then 16 else 18) (a_w a1).2.1 0 t (T.2.2.2 (a_p a1)))) else .inl (4, a_p a3)) else .inl (1, a_p a3))))
      else .inl (1, a_p a1)) := by
      intro y hy
      rw [q_X13_acts_51, if_pos rfl]
      refine mfV (d := d + 18) h1 hy (fun c1 => ?_)
      rw [h22 c1, if_not']
      have fin : ∀ y : Int32, (y = 0 ↔ ¬ ¬ (a_s a1 = 3 ∧ ((a_w a1).2.1 = 2 ∨ (a_w a1).2.1 = 3 ∨ (a_w a1).2.1 = 4))) → SMV mi O T N (sm_go (sm_ZZ X) sm_PP true (sm_callM X true (d + 20)) 228 80 [vP (23, 0), vI t, vI (Int32.ofNat (a_s a1)), vI (a_w a1).2.1, vI (Int32.ofNat (a_p a1)), vU] [vI y, vP (23, 0)] σ1) (if ¬ (a_s a1 = 3 ∧ ((a_w a1).2.1 = 2 ∨ (a_w a1).2.1 = 3 ∨ (a_w a1).2.1 = 4)) then
          pb (zN (aW a1 (0, 0, 0, 0))) (fun _ a2 => pb (zExp T a2) (fun u a3 => if T.1 (a_p a3) = 59 then (if cFit u t = 1 then pb (zN a3) (fun _ a4 => .inr (0, zE a4 (if a_s a1 = 1 then 6 else if a_s a1 = 2 then 16 else 18) (a_w a1).2.1 0 t (T.2.2.2 (a_p a1)))) else .inl (4, a_p a3)) else .inl (1, a_p a3))) else .inl (4, a_p a1)) := by
        intro y hy
        rw [q_X13_acts_80, if_pos rfl, PM_at h1]
        refine mtV (d := d + 18) h1 hy hp1 (by omega) (fun c2 => ?_)
        refine mnV (d := d + 18) hT (PM_w0 h1) (by show T.1 (a_p a1) ≠ 6; rw [k61]; decide) (by show T.1 (a_p a1) ≠ 7; rw [k61]; decide) (fun σ2 n2 h2 => ?_)
        have b2 : zL (aP (aW a1 (0, 0, 0, 0)) (a_p (aW a1 (0, 0, 0, 0)) + 1)) ≤ a_p (aP (aW a1 (0, 0, 0, 0)) (a_p (aW a1 (0, 0, 0, 0)) + 1)) := by show zL a1 ≤ a_p a1 + 1; omega
        refine mbIV (hE 20 _ σ2 h2 o1 b2 t1) (fun u a3 σ3 e3 h3 => ?_)
        obtain ⟨w3, b3, l3, lt3, -, -, -, -, -⟩ := Exp_b (PM_len h2) b2 e3
        have V3 := V_X hT 11 _ _ _ (PM_len h2) t1 e3
        have hp3 := h3.1.2.1
        have hp38 := PM_len h3
        rw [m_is h3 (by decide), bI_r]
        refine mfV (d := d + 18) h3 bz (fun k3 => ?_)
        rw [m_fit (d := d + 16) V3 V1, bI_r, PM_at h3]
        refine mtV (d := d + 18) h3 (cFit_z _ _) hp3 (by omega) (fun c3 => ?_)
        by_cases q1 : a_s a1 = 1
        · rw [if_pos (s1.mpr q1), if_pos q1]
          exact menV (d := d + 18) (op := 6) (tk := a_p a1) (arg := (a_w a1).2.1) (ty := t) (tgt := 0) hT h3 (by rw [k3]; decide) (by rw [k3]; decide) l3 rfl (Nat.zero_le _) rfl rfl rfl (Or.inr ⟨rfl, hp1, by omega, rfl⟩)
        · rw [if_neg (fun z => q1 (s1.mp z)), if_neg q1]
          by_cases q2 : a_s a1 = 2
          · rw [if_pos (s2.mpr q2), if_pos q2]
            exact menV (d := d + 18) (op := 16) (tk := a_p a1) (arg := (a_w a1).2.1) (ty := t) (tgt := 0) hT h3 (by rw [k3]; decide) (by rw [k3]; decide) l3 rfl (Nat.zero_le _) rfl rfl rfl (Or.inr ⟨rfl, hp1, by omega, rfl⟩)
          · rw [if_neg (fun z => q2 (s2.mp z)), if_neg q2]
            exact menV (d := d + 18) (op := 18) (tk := a_p a1) (arg := (a_w a1).2.1) (ty := t) (tgt := 0) hT h3 (by rw [k3]; decide) (by rw [k3]; decide) l3 rfl (Nat.zero_le _) rfl rfl rfl (Or.inr ⟨rfl, hp1, by omega, rfl⟩)
      by_cases q3 : a_s a1 = 3
      · rw [if_pos (s3.mpr q3)]
        by_cases v2 : (a_w a1).2.1 = 2
        · rw [if_pos v2]; exact fin 0 ⟨fun _ z => z ⟨q3, Or.inl v2⟩, fun _ => rfl⟩
        · rw [if_neg v2]
          by_cases v3 : (a_w a1).2.1 = 3
          · rw [if_pos v3]; exact fin 0 ⟨fun _ z => z ⟨q3, Or.inr (Or.inl v3)⟩, fun _ => rfl⟩
          · rw [if_neg v3]
            by_cases v4 : (a_w a1).2.1 = 4
            · rw [if_pos v4]; exact fin 0 ⟨fun _ z => z ⟨q3, Or.inr (Or.inr v4)⟩, fun _ => rfl⟩
            · rw [if_neg v4]; exact fin 1 ⟨fun z => absurd z (by decide), fun z => absurd (fun w : _ ∧ _ => w.2.elim v2 (fun w => w.elim v3 v4)) z⟩
      · rw [if_neg (fun z => q3 (s3.mp z))]
        exact fin 1 ⟨fun z => absurd z (by decide), fun z => absurd (fun w : _ ∧ _ => q3 w.1) z⟩
    by_cases q1 : a_s a1 = 1
    · rw [if_pos (s1.mpr q1)]; exact key 1 ⟨fun z => absurd z (by decide), fun z => absurd (Or.inl q1) z⟩
    · rw [if_neg (fun z => q1 (s1.mp z))]
      by_cases q2 : a_s a1 = 2
      · rw [if_pos (s2.mpr q2)]; exact key 1 ⟨fun z => absurd z (by decide), fun z => absurd (Or.inr (Or.inl q2)) z⟩
      · rw [if_neg (fun z => q2 (s2.mp z))]
        by_cases q3 : a_s a1 = 3
        · rw [if_pos (s3.mpr q3)]; exact key 1 ⟨fun z => absurd z (by decide), fun z => absurd (Or.inr (Or.inr q3)) z⟩
        · rw [if_neg (fun z => q3 (s3.mp z))]; exact key 0 ⟨fun _ z => z.elim q1 (fun z => z.elim q2 q3), fun _ => rfl⟩
  · rw [if_neg k61, if_pos rfl, if_neg k61, m_is h1 (by decide), bI_r]
    have key : ∀ y : Int32, (y = 0 ↔ ¬ (T.1 (a_p a1) = 59 ∧ a_s a1 = 4)) → SMV mi O T N (sm_go (sm_ZZ X) sm_PP true (sm_callM X true (d + 20)) 228 179 [vP (23, 0), vI t, vI (Int32.ofNat (a_s a1)), vI (σ1.1 23 0 22), vU, vU] [vI y, vP (23, 0)] σ1) (if T.1 (a_p a1) = 59 ∧ a_s a1 = 4 then pb (zN a1) (fun _ a2 => .inr (0, zE a2 (if t = 38 then 35 else 1) 0 0 0 (-1))) else .inl (1, a_p a1)) := by
      intro y hy
      rw [q_X13_acts_179, if_pos rfl]
      refine mfV (d := d + 18) h1 hy (fun c1 => ?_)
      by_cases q : t = 38
      · rw [if_pos q, if_pos q]
        exact mnV (d := d + 18) hT h1 (by rw [c1.1]; decide) (by rw [c1.1]; decide) (fun σ2 _ h2 => ⟨_, rfl, m_inv h2 rfl (Nat.zero_le _)⟩)
      · rw [if_neg q, if_neg q]
        exact menV (d := d + 18) (op := 1) (tk := 0) (arg := 0) (ty := 0) (tgt := 0) hT h1 (by rw [c1.1]; decide) (by rw [c1.1]; decide) l1 rfl (Nat.zero_le _) rfl rfl rfl (Or.inl ⟨rfl, rfl⟩)
    by_cases k59 : T.1 (a_p a1) = 59
    · rw [if_pos k59, if_neg (by decide)]
      by_cases q4 : a_s a1 = 4
      · rw [if_pos (s4.mpr q4)]; exact key 1 ⟨fun z => absurd z (by decide), fun z => absurd ⟨k59, q4⟩ z⟩
      · rw [if_neg (fun z => q4 (s4.mp z))]; exact key 0 ⟨fun _ z => q4 z.2, fun _ => rfl⟩
    · rw [if_neg k59, if_pos rfl]
      exact key 0 ⟨fun _ z => k59 z.1, fun _ => rfl⟩
/-! an item is changed -/
theorem MV_mod {l : List zI} {f : zI → zI} {k : Nat} {e : zI} {σ' : sm_S} (q : MV l mi σ) (hk : l[k]? = some e) (hf : ∀ e, (f e).1 = e.1) (hv : vM e.1 = true) (ht : (f e).2.2.1 ≤ l.length) (h22 : σ'.1 22 mi 6 = σ.1 22 mi 6)
    (hn : σ'.1 63 mi (pos vM l k) = Int32.ofNat (mOp (f e)) ∧ σ'.1 64 mi (pos vM l k) = mNum l (f e) ∧ σ'.1 65 mi (pos vM l k) = mSec (f e) ∧ σ'.1 66 mi (pos vM l k) = (f e).2.2.2.1)
    (ho : ∀ n, n ≠ pos vM l k → σ'.1 63 mi n = σ.1 63 mi n ∧ σ'.1 64 mi n = σ.1 64 mi n ∧ σ'.1 65 mi n = σ.1 65 mi n ∧ σ'.1 66 mi n = σ.1 66 mi n) : MV (l.modify k f) mi σ' := by
  obtain ⟨a1, a2, a3⟩ := q
  refine ⟨by rw [h22, List.length_modify, pos_mod hf]; exact a1, fun j x hj hx => ?_, fun x hx => ?_⟩
  · rw [List.getElem?_modify] at hj
    cases hy : l[j]? with
    | none => rw [hy] at hj; cases hj
    | some y =>
      rw [hy] at hj
      rw [pos_mod hf]
      by_cases z : k = j
      · subst z
        have hye : y = e := Option.some.inj (hy.symm.trans hk)
        subst hye
        simp at hj
        subst hj
        obtain ⟨n1, n2, n3, n4⟩ := hn
        exact ⟨n1, by rw [n2]; exact (mNum_c (pos_mod hf)).symm, n3, n4⟩
      · simp [z] at hj
        subst hj
        obtain ⟨b1, b2, b3, b4⟩ := a2 j y hy hx
        obtain ⟨o1, o2, o3, o4⟩ := ho (pos vM l j) (fun w => z (pos_inj hk hv hy hx w.symm))
        exact ⟨o1.trans b1, by rw [o2, b2]; exact (mNum_c (pos_mod hf)).symm, o3.trans b3, o4.trans b4⟩
  · rw [List.length_modify]
    obtain ⟨j, hj⟩ := List.mem_iff_getElem?.mp hx
    rw [List.getElem?_modify] at hj
    cases hy : l[j]? with
    | none => rw [hy] at hj; cases hj
    | some y =>
      rw [hy] at hj
      by_cases z : k = j
      · subst z
        have hye : y = e := Option.some.inj (hy.symm.trans hk)
        subst hye
        simp at hj
        subst hj
        exact ht
      · simp [z] at hj
        subst hj
        exact a3 y (List.mem_of_getElem? hy)
/-- a jump is aimed at the end of the code -/
theorem PM_aim {k : Nat} {e : zI} (h : PM mi O T N a σ) (hk : (a_i a)[k]? = some e) (he : e.1 = 0 ∨ e.1 = 26) : PM mi O T N (zX a k (zL a)) (sI σ 64 mi (pos vM (a_i a) k) (σ.1 22 mi 6)) := by
  obtain ⟨h1, h2, h3, h4, h5, h6, h7⟩ := h
  have hve : vM e.1 = true := by rcases he with z | z <;> rw [z] <;> rfl
  obtain ⟨b1, b2, b3, b4⟩ := h2.2.1 k e hk hve
  refine ⟨MT_o h1 (by omega), ?_, MQp_o (MQp_mod (fun _ => rfl) h3) (by omega), MN_o h4 (by omega), MX_o (a := a) h5 (by omega), h6, OM_I h7 (fun _ => rfl)⟩
  refine MV_mod (f := fun e => (e.1, e.2.1, zL a, e.2.2.2)) h2 hk (fun _ => rfl) hve (Nat.le_refl _) (by rw [gI, if_neg (by omega)]) ⟨?_, ?_, ?_, ?_⟩ (fun n hn => ⟨?_, ?_, ?_, ?_⟩)
  · rw [gI, if_neg (by omega)]; exact b1
  · rw [gI, if_pos ⟨rfl, rfl, rfl⟩, h2.1]
    obtain ⟨o, e'⟩ := e
    rcases he with z | z
    · have z : o = 0 := z
      subst z; rfl
    · have z : o = 26 := z
      subst z; rfl
  · rw [gI, if_neg (by omega)]; exact b3
  · rw [gI, if_neg (by omega)]; exact b4
  · rw [gI, if_neg (by omega)]
  · rw [gI, if_neg (by omega)]
  · rw [gI, if_neg (by omega)]
  · rw [gI, if_neg (by omega)]
/-- a condition; what comes back is where its item stands -/
def SMJ (mi : Nat) (O : Nat → Nat → Nat → Int32) (T : zT) (N : Nat) (r : sm_R) (z : zR) : Prop := match z with
  | .inl e => Thr e.1 (T.2.2.2 e.2) mi O r
  | .inr x => ∃ σ', r = rI (Int32.ofNat (pos vM (a_i x.2) (zL x.2 - 1))) σ' ∧ PM mi O T N x.2 σ'
theorem mbJV {r : sm_R} {z : zR} {k : Int32 → sm_S → sm_R} {k' : Int32 → zA → zR} (h : SMJ mi O T N r z) (hok : ∀ y a σ, z = .inr (y, a) → PM mi O T N a σ → SMV mi O T N (k (Int32.ofNat (pos vM (a_i a) (zL a - 1))) σ) (k' y a)) : SMV mi O T N (sm_bI r sm_tw k) (pb z k') := by
  rcases z with e | ⟨y, a⟩
  · obtain ⟨σ', rfl, F⟩ := h; exact ⟨σ', rfl, F⟩
  · obtain ⟨σ', rfl, P⟩ := h; exact hok y a σ' rfl P
theorem mbVJ {r : sm_R} {z : zR} {k : sm_S → sm_R} {k' : Int32 → zA → zR} (h : SMV mi O T N r z) (hok : ∀ y a σ, z = .inr (y, a) → PM mi O T N a σ → SMJ mi O T N (k σ) (k' y a)) : SMJ mi O T N (sm_bV r sm_tw k) (pb z k') := by
  rcases z with e | ⟨y, a⟩
  · obtain ⟨σ', rfl, F⟩ := h; exact ⟨σ', rfl, F⟩
  · obtain ⟨σ', rfl, P⟩ := h; exact hok y a σ' rfl P
theorem mbIJ {r : sm_R} {z : zR} {k : Int32 → sm_S → sm_R} {k' : Int32 → zA → zR} (h : SMI mi O T N r z) (hok : ∀ y a σ, z = .inr (y, a) → PM mi O T N a σ → SMJ mi O T N (k y σ) (k' y a)) : SMJ mi O T N (sm_bI r sm_tw k) (pb z k') := by
  rcases z with e | ⟨y, a⟩
  · obtain ⟨σ', rfl, F⟩ := h; exact ⟨σ', rfl, F⟩
  · obtain ⟨σ', rfl, P⟩ := h; exact hok y a σ' rfl P
theorem pb_c {c : Prop} [Decidable c] {e : Int32 × Nat} {z : zR} {y : Int32} : (if c then z else .inl e) = pb (if c then .inr (y, a) else .inl e) (fun _ _ => z) := by
  by_cases q : c
  · rw [if_pos q, if_pos q]; rfl
  · rw [if_neg q, if_neg q]; rfl
theorem m_asks {p0 : Nat} (hT : TK T N) (hE1 : HM X d mi O T N (zX_ T 10) 1) (h : PM mi O T N a σ) (hk6 : T.1 (a_p a) ≠ 6) (hk7 : T.1 (a_p a) ≠ 7) (ho : a_o a = 0) (hb : zL a ≤ a_p a) (hty : tyA a) (hp0 : p0 ≤ N) (hp8 : p0 ≤ 800) : SMJ mi O T N (sm_callM X true (d + 20) 220 [vP (23, 0), vI (Int32.ofNat p0)] σ) (zCond T p0 a) := by
  rw [f_X13_asks, q_X13_asks_0]
  unfold zCond zCon
  refine mbVJ (m_next (d := d + 17) hT h hk6 hk7) (fun _ a1 σ1 e1 h1 => ?_)
  obtain ⟨n1, e1⟩ := zN_inr.mp e1
  cases e1
  refine mbVJ (m_opens (d := d + 16) hT h1 (by decide) (by show a_o a ≤ 10; omega)) (fun _ a2 σ2 e2 h2 => ?_)
  obtain ⟨c2, n2, e2⟩ := zOpens_inr.mp e2
  have E2 : a2 = aP (aO (aP a (a_p a + 1)) (a_o a + 1)) (a_p a + 1 + 1) := congrArg Prod.snd e2
  have b2 : zL a2 ≤ a_p a2 := by rw [E2]; show zL a ≤ a_p a + 1 + 1; omega
  have o2 : a_o a2 = 1 := by rw [E2]; show a_o a + 1 = 1; omega
  have t2 : tyA a2 := by rw [E2]; exact hty
  refine mbIJ (hE1 19 a2 σ2 h2 o2 b2 t2) (fun u a3 σ3 e3 h3 => ?_)
  obtain ⟨-, b3, t3, l3, o3, -, -⟩ := sub_b (D_X 10) (PM_len h2) b2 t2 e3
  have hp3 := h3.1.2.1
  have hp38 := PM_len h3
  rw [m_is h3 (by decide), bI_r, pb_c (a := a3) (y := 0)]
  refine mbVJ (m_form (d := d + 17) (c := T.1 (a_p a3) = 41) h3 bz) (fun _ a4 σ4 e4 h4 => ?_)
  rw [it_l] at e4
  obtain ⟨k3, e4⟩ := e4
  cases e4
  have key : ∀ y : Int32, (y = 0 ↔ ¬ u = 36) → SMJ mi O T N (sm_go (sm_ZZ X) sm_PP true (sm_callM X true (d + 19)) 220 37 [vP (23, 0), vI (Int32.ofNat p0), vI u] [vI y, vP (23, 0)] σ4) (if u = 36 then pb (zN (aO a3 (a_o a3 - 1))) (fun _ a4 => .inr (0, zE a4 26 0 0 0 (T.2.2.2 p0))) else .inl (4, a_p a3)) := by
    intro y hy
    rw [q_X13_asks_37, if_pos rfl, PM_at h4, pb_c (a := a3) (y := 0)]
    refine mbVJ (m_types (d := d + 17) (c := u = 36) h4 hy hp3 (by omega)) (fun _ a5 σ5 e5 h5 => ?_)
    rw [it_l] at e5
    obtain ⟨k5, e5⟩ := e5
    cases e5
    refine mbVJ (m_next (d := d + 17) hT (PM_close h5 (by omega) (by omega)) (by show T.1 (a_p a3) ≠ 6; rw [k3]; decide) (by show T.1 (a_p a3) ≠ 7; rw [k3]; decide)) (fun _ a6 σ6 e6 h6 => ?_)
    obtain ⟨n6, e6⟩ := zN_inr.mp e6
    have E6 : a6 = aP (aO a3 (a_o a3 - 1)) (a_p a3 + 1) := congrArg Prod.snd e6
    have l6 : zL a6 < 900 := by rw [E6]; exact l3
    obtain ⟨σ7, e7, h7⟩ := m_em (X := X) (d := d + 18) (op := 26) (tk := p0) (arg := 0) (ty := 0) (pl := T.2.2.2 p0) (tgt := 0) (o := 19) (g := 0) (x3 := Int32.ofNat p0) h6 l6 rfl (Nat.zero_le _) rfl rfl rfl (Or.inr ⟨rfl, hp0, by omega, rfl⟩)
    have e7 : sm_callM X true (d + 19) 207 [vP (23, 0), vI 19, vI 0, vI (Int32.ofNat p0)] σ6 = _ := e7
    rw [e7, bI_r]
    refine ⟨σ7, ?_, h7⟩
    show rI _ σ7 = rI _ σ7
    rw [zL_E]
    show _ = rI (Int32.ofNat (pos vM (a_i a6 ++ _) (zL a6))) σ7
    rw [pos_app (show zL a6 ≤ (a_i a6).length from Nat.le_refl _)]
  by_cases q : u = 36
  · rw [if_pos q]; exact key 1 ⟨fun z => absurd z (by decide), fun z => absurd q z⟩
  · rw [if_neg q]; exact key 0 ⟨fun _ => q, fun _ => rfl⟩
end
