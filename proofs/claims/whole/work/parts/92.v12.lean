section
/-! THE CLASS READS TYPES AND NEW NAMES -/
variable {X : Nat × (Nat → Int32)} {d : Nat} {s σ : sm_S} {ci N : Nat} {O : Nat → Nat → Nat → Int32} {T : zT} {a b : zA}
theorem PC_k (h : PC ci O T N a σ) : σ.1 15 0 6 = T.1 (a_p a) := h.1.2.2.2.2.2.1
theorem PC_pl (h : PC ci O T N a σ) : σ.1 15 0 7 = T.2.2.2 (a_p a) := h.1.2.2.2.2.2.2.1
theorem PC_cd (h : PC ci O T N a σ) : σ.2.2.1 15 0 3 = (10, ci) := CI_code h.2.2.2.2.1
theorem PC_nm (h : PC ci O T N a σ) (q : T.1 (a_p a) = 3) : σ.2.1 15 0 8 = pk7 (T.2.1 (a_p a)) 0 := by
  rw [h.1.2.2.2.2.2.2.2.1 (by rw [q]; decide)]
  unfold cvl; rw [if_pos (Or.inl q)]
theorem PC_vl (h : PC ci O T N a σ) (q : T.1 (a_p a) = 5 ∨ T.1 (a_p a) = 4) : σ.2.1 15 0 8 = T.2.2.1 (a_p a) := by
  have h7 : T.1 (a_p a) ≠ 7 := by rcases q with q | q <;> rw [q] <;> decide
  rw [h.1.2.2.2.2.2.2.2.1 h7]
  unfold cvl
  rw [if_neg]
  rcases q with q | q <;> rw [q] <;> decide
theorem PC_nx (hT : TK T N) (h : PC ci O T N a σ) (h6 : T.1 (a_p a) ≠ 6) (h7 : T.1 (a_p a) ≠ 7) : σ.1 15 0 9 = T.1 (a_p a + 1) := by
  obtain ⟨a1, a2, -, -, -, -, -, -, a9, -⟩ := h.1
  rw [a9, if_pos]
  rcases Nat.lt_or_ge (a_p a) N with z | z
  · exact z
  · exfalso
    have : a_p a = N := by omega
    rw [this] at h6 h7 a1
    rcases hT.2.2.1 with w | w | w
    · exact h6 w
    · exact h7 w
    · omega
theorem zN_p {x : Int32 × zA} (h : zN a = .inr x) : a_p x.2 = a_p a + 1 := by
  obtain ⟨-, rfl⟩ := zN_inr.mp h; rfl
theorem pb_r {y : Int32} {k : Int32 → zA → zR} : pb (.inr (y, a)) k = k y a := rfl
theorem pb_l {e : Int32 × Nat} {k : Int32 → zA → zR} : pb (.inl e) k = .inl e := rfl
theorem SCI_f {r : sm_R} {e : Int32 × Nat} (h : FI e.1 (T.2.2.2 e.2) ci O r) : SCI ci O T N r (.inl e) := h
theorem SCU_f {r : sm_R} {e : Int32 × Nat} (h : FI e.1 (T.2.2.2 e.2) ci O r) : SCU ci O T N r (.inl e) := h
theorem SCV_f {r : sm_R} {e : Int32 × Nat} (h : FV e.1 (T.2.2.2 e.2) ci O r) : SCV ci O T N r (.inl e) := h
theorem cbVV {r : sm_R} {z : zR} {k : sm_S → sm_R} {k' : Int32 → zA → zR} (h : SCV ci O T N r z) (hok : ∀ y a σ, z = .inr (y, a) → PC ci O T N a σ → SCV ci O T N (k σ) (k' y a)) (hf : ∀ (e : Int32 × Nat) σ, FS e.1 (T.2.2.2 e.2) ci O σ → FV e.1 (T.2.2.2 e.2) ci O (k σ)) : SCV ci O T N (sm_bV r sm_tw k) (pb z k') := cbV (G := SCV ci O T N) h hok hf
theorem cbVI {r : sm_R} {z : zR} {k : sm_S → sm_R} {k' : Int32 → zA → zR} (h : SCV ci O T N r z) (hok : ∀ y a σ, z = .inr (y, a) → PC ci O T N a σ → SCI ci O T N (k σ) (k' y a)) (hf : ∀ (e : Int32 × Nat) σ, FS e.1 (T.2.2.2 e.2) ci O σ → FI e.1 (T.2.2.2 e.2) ci O (k σ)) : SCI ci O T N (sm_bV r sm_tw k) (pb z k') := cbV (G := SCI ci O T N) h hok hf
theorem cbVU {r : sm_R} {z : zR} {k : sm_S → sm_R} {k' : Int32 → zA → zR} (h : SCV ci O T N r z) (hok : ∀ y a σ, z = .inr (y, a) → PC ci O T N a σ → SCU ci O T N (k σ) (k' y a)) (hf : ∀ (e : Int32 × Nat) σ, FS e.1 (T.2.2.2 e.2) ci O σ → FI e.1 (T.2.2.2 e.2) ci O (k σ)) : SCU ci O T N (sm_bV r sm_tw k) (pb z k') := cbV (G := SCU ci O T N) h hok hf
theorem cbIV {r : sm_R} {z : zR} {k : Int32 → sm_S → sm_R} {k' : Int32 → zA → zR} (h : SCI ci O T N r z) (hok : ∀ y a σ, z = .inr (y, a) → PC ci O T N a σ → SCV ci O T N (k y σ) (k' y a)) (hf : ∀ (e : Int32 × Nat) y σ, FS e.1 (T.2.2.2 e.2) ci O σ → FV e.1 (T.2.2.2 e.2) ci O (k y σ)) : SCV ci O T N (sm_bI r sm_tw k) (pb z k') := cbI (G := SCV ci O T N) h hok hf
theorem cbII {r : sm_R} {z : zR} {k : Int32 → sm_S → sm_R} {k' : Int32 → zA → zR} (h : SCI ci O T N r z) (hok : ∀ y a σ, z = .inr (y, a) → PC ci O T N a σ → SCI ci O T N (k y σ) (k' y a)) (hf : ∀ (e : Int32 × Nat) y σ, FS e.1 (T.2.2.2 e.2) ci O σ → FI e.1 (T.2.2.2 e.2) ci O (k y σ)) : SCI ci O T N (sm_bI r sm_tw k) (pb z k') := cbI (G := SCI ci O T N) h hok hf
theorem cbIU {r : sm_R} {z : zR} {k : Int32 → sm_S → sm_R} {k' : Int32 → zA → zR} (h : SCI ci O T N r z) (hok : ∀ y a σ, z = .inr (y, a) → PC ci O T N a σ → SCU ci O T N (k y σ) (k' y a)) (hf : ∀ (e : Int32 × Nat) y σ, FS e.1 (T.2.2.2 e.2) ci O σ → FI e.1 (T.2.2.2 e.2) ci O (k y σ)) : SCU ci O T N (sm_bI r sm_tw k) (pb z k') := cbI (G := SCU ci O T N) h hok hf
theorem cbUV {r : sm_R} {z : zR} {k : Int32 → sm_S → sm_R} {k' : Int32 → zA → zR} (h : SCU ci O T N r z) (hok : ∀ y a σ, z = .inr (y, a) → PC ci O T N a σ → σ.1 15 0 10 = csh (a_s a) → SCV ci O T N (k y σ) (k' y a)) (hf : ∀ (e : Int32 × Nat) y σ, FS e.1 (T.2.2.2 e.2) ci O σ → FV e.1 (T.2.2.2 e.2) ci O (k y σ)) : SCV ci O T N (sm_bI r sm_tw k) (pb z k') := cbU (G := SCV ci O T N) h hok hf
theorem cbUI {r : sm_R} {z : zR} {k : Int32 → sm_S → sm_R} {k' : Int32 → zA → zR} (h : SCU ci O T N r z) (hok : ∀ y a σ, z = .inr (y, a) → PC ci O T N a σ → σ.1 15 0 10 = csh (a_s a) → SCI ci O T N (k y σ) (k' y a)) (hf : ∀ (e : Int32 × Nat) y σ, FS e.1 (T.2.2.2 e.2) ci O σ → FI e.1 (T.2.2.2 e.2) ci O (k y σ)) : SCI ci O T N (sm_bI r sm_tw k) (pb z k') := cbU (G := SCI ci O T N) h hok hf
theorem cbUU {r : sm_R} {z : zR} {k : Int32 → sm_S → sm_R} {k' : Int32 → zA → zR} (h : SCU ci O T N r z) (hok : ∀ y a σ, z = .inr (y, a) → PC ci O T N a σ → σ.1 15 0 10 = csh (a_s a) → SCU ci O T N (k y σ) (k' y a)) (hf : ∀ (e : Int32 × Nat) y σ, FS e.1 (T.2.2.2 e.2) ci O σ → FI e.1 (T.2.2.2 e.2) ci O (k y σ)) : SCU ci O T N (sm_bI r sm_tw k) (pb z k') := cbU (G := SCU ci O T N) h hok hf
/-- a type, its last token still looked at -/
def zTyU (T : zT) (a : zA) : zR := if T.1 (a_p a) = 5 then (if tV T (a_p a) ≠ 36 ∧ T.1 (a_p a + 1) = 91 then pb (zN a) (fun _ a1 => pb (zN a1) (fun _ a2 => if T.1 (a_p a2) = 93 then .inr (18 + tV T (a_p a), a2) else .inl (1, a_p a2))) else .inr (tV T (a_p a), a)) else .inl (1, a_p a)
theorem zTyU_inr {x : Int32 × zA} (h : zTyU T a = .inr x) : T.1 (a_p a) = 5 ∧ ((x = (tV T (a_p a), a) ∧ (tV T (a_p a) = 36 ∨ T.1 (a_p a + 1) ≠ 91)) ∨ (tV T (a_p a) ≠ 36 ∧ a_p a ≠ 800 ∧ a_p a + 1 ≠ 800 ∧ T.1 (a_p a + 2) = 93 ∧ x = (18 + tV T (a_p a), aP a (a_p a + 2)))) := by
  unfold zTyU at h
  rw [it_l] at h
  obtain ⟨h1, h2⟩ := h
  refine ⟨h1, ?_⟩
  by_cases q : tV T (a_p a) ≠ 36 ∧ T.1 (a_p a + 1) = 91
  · rw [if_pos q, pb_inr] at h2
    obtain ⟨_, a1, h3, h4⟩ := h2
    obtain ⟨n1, e1⟩ := zN_inr.mp h3
    cases e1
    rw [pb_inr] at h4
    obtain ⟨_, a2, h5, h6⟩ := h4
    obtain ⟨n2, e2⟩ := zN_inr.mp h5
    cases e2
    rw [it_l] at h6
    obtain ⟨h7, h8⟩ := h6
    cases h8
    exact Or.inr ⟨q.1, n1, n2, h7, rfl⟩
  · rw [if_neg q] at h2
    cases h2
    refine Or.inl ⟨rfl, ?_⟩
    by_cases q1 : tV T (a_p a) = 36
    · exact Or.inl q1
    · exact Or.inr (fun z => q ⟨q1, z⟩)
theorem zTyU_k {x : Int32 × zA} (h : zTyU T a = .inr x) : T.1 (a_p x.2) = 5 ∨ T.1 (a_p x.2) = 93 := by
  obtain ⟨h1, h2⟩ := zTyU_inr h
  rcases h2 with ⟨e, -⟩ | ⟨-, -, -, h3, e⟩
  · rw [e]; exact Or.inl h1
  · rw [e]; exact Or.inr h3
theorem zTy_U : zTy T a = pb (zTyU T a) (fun t a1 => pb (zN a1) (fun _ a2 => .inr (t, a2))) := by
  unfold zTy zTyU
  by_cases q1 : T.1 (a_p a) = 5
  · rw [if_pos q1, if_pos q1]
    by_cases q3 : tV T (a_p a) ≠ 36 ∧ T.1 (a_p a + 1) = 91
    · rw [if_pos q3, pb_pb]
      cases hz : zN a with
      | inl e => rfl
      | inr x =>
        obtain ⟨y, a1⟩ := x
        have hp : a_p a1 = a_p a + 1 := zN_p hz
        rw [pb_r, pb_r, if_neg q3.1, hp, if_pos q3.2, pb_pb]
        congr 1
        funext _ a2
        unfold zMust
        by_cases q4 : T.1 (a_p a2) = 93
        · rw [if_pos q4, if_pos q4]; rfl
        · rw [if_neg q4, if_neg q4]; rfl
    · rw [if_neg q3, pb_r]
      cases hz : zN a with
      | inl e => rfl
      | inr x =>
        obtain ⟨y, a1⟩ := x
        have hp : a_p a1 = a_p a + 1 := zN_p hz
        rw [pb_r]
        by_cases q5 : tV T (a_p a) = 36
        · rw [if_pos q5]; rfl
        · rw [if_neg q5, if_neg (by rw [hp]; exact fun z => q3 ⟨q5, z⟩)]; rfl
  · rw [if_neg q1, if_neg q1]; rfl
theorem zAskT_U {t : Int32} {k : Int32 → zA → zR} : zAskT T t a k = pb (zTyU T a) (fun u a1 => if cAsk t u = 1 then pb (zN a1) (fun _ a2 => k u a2) else .inl (4, a_p a1)) := by
  unfold zAskT zTyU
  by_cases q1 : T.1 (a_p a) = 5
  · rw [if_pos q1, if_pos q1]
    by_cases q3 : tV T (a_p a) ≠ 36 ∧ T.1 (a_p a + 1) = 91
    · rw [if_pos q3, if_pos q3, pb_pb]
      congr 1
      funext _ a1
      rw [pb_pb]
      congr 1
      funext _ a2
      by_cases q4 : T.1 (a_p a2) = 93
      · rw [if_pos q4, if_pos q4]; rfl
      · rw [if_neg q4, if_neg q4]; rfl
    · rw [if_neg q3, if_neg q3]; rfl
  · rw [if_neg q1, if_neg q1]; rfl
theorem c_readTyU (hT : TK T N) (h : PC ci O T N a σ) : SCI ci O T N (sm_callM X true (d + 2) 94 [vP (15, 0)] σ) (zTyU T a) := by
  rw [f_X5_readTypeUpToLast, q_X5_readTypeUpToLast_0, PC_k h]
  unfold zTyU
  by_cases q : T.1 (a_p a) = 5
  · have hv := PC_vl h (Or.inl q)
    rw [if_pos q, if_pos q, hv]
    by_cases q2 : tV T (a_p a) = 36
    · rw [if_pos (show (T.2.2.1 (a_p a)).toInt32 = 36 from q2), if_neg (fun z => z.1 q2)]
      exact ⟨σ, rfl, h⟩
    · rw [if_neg (show ¬ (T.2.2.1 (a_p a)).toInt32 = 36 from q2), PC_nx hT h (by rw [q]; decide) (by rw [q]; decide)]
      by_cases q3 : T.1 (a_p a + 1) = 91
      · rw [if_pos q3, if_pos ⟨q2, q3⟩]
        refine cbVI (c_pass (d := d) hT h (by rw [q]; decide) (by rw [q]; decide)) (fun _ a1 σ1 e1 h1 => ?_) (fun e σ F => ft_readTypeUpToLast_0_s2 F)
        have k1 : T.1 (a_p a1) = 91 := by rw [show a_p a1 = a_p a + 1 from zN_p e1]; exact q3
        refine cbVI (c_pass (d := d) hT h1 (by rw [k1]; decide) (by rw [k1]; decide)) (fun _ a2 σ2 e2 h2 => ?_) (fun e σ F => ft_readTypeUpToLast_0_s4 F)
        rw [PC_k h2]
        by_cases q4 : T.1 (a_p a2) = 93
        · rw [if_pos q4, if_pos q4]
          exact ⟨σ2, rfl, h2⟩
        · rw [if_neg q4, if_neg q4, PC_pl h2]
          exact SCI_f (bindV (c_refuse h2 (by decide)) (fun σ F => fi_ret F))
      · rw [if_neg q3, if_neg (fun z => q3 z.2)]
        exact ⟨σ, rfl, h⟩
  · rw [if_neg q, if_neg q, PC_pl h]
    exact SCI_f (bindV (c_refuse h (by decide)) (fun σ F => fi_ret F))
theorem c_readType (hT : TK T N) (h : PC ci O T N a σ) : SCI ci O T N (sm_callM X true (d + 3) 93 [vP (15, 0)] σ) (zTy T a) := by
  rw [f_X5_readType, q_X5_readType_0, zTy_U]
  refine cbII (c_readTyU (d := d) hT h) (fun t a1 σ1 e1 h1 => ?_) (fun e y σ F => ft_readType_0_s2 F)
  have k1 := zTyU_k e1
  refine cbVI (c_pass (d := d + 1) hT h1 ?_ ?_) (fun _ a2 σ2 e2 h2 => ⟨σ2, rfl, h2⟩) (fun e σ F => ft_readType_0_s4 F)
  · rcases k1 with z | z <;> (rw [show T.1 (a_p a1) = _ from z]; decide)
  · rcases k1 with z | z <;> (rw [show T.1 (a_p a1) = _ from z]; decide)
/-- a new name; c: it would be one too many -/
def zNewX (T : zT) (c : Bool) (t : Int32) (a : zA) : zR := if T.1 (a_p a) = 3 then (match kFind (T.2.1 (a_p a)) (a_k a) with
  | some _ => .inl (3, a_p a)
  | none => if c = true ∨ a_m a = 24 then .inl (5, a_p a) else pb (zN a) (fun _ a2 => .inr (Int32.ofNat (a_m a), aX a2 (some (T.2.1 (a_p a), t))))) else .inl (1, a_p a)
theorem zNewN_X {t : Int32} : zNewN T t a = zNewX T false t a := by
  unfold zNewN zNewX zFresh
  by_cases q : T.1 (a_p a) = 3
  · rw [if_pos q, if_pos q]
    cases kFind (T.2.1 (a_p a)) (a_k a) with
    | some e => rfl
    | none =>
      show pb (if a_m a = 24 then _ else _) _ = (if false = true ∨ a_m a = 24 then _ else _)
      by_cases q2 : a_m a = 24
      · rw [if_pos q2, if_pos (Or.inr q2)]; rfl
      · rw [if_neg q2, if_neg (fun z => z.elim (fun w => by cases w) q2)]; rfl
  · rw [if_neg q, if_neg q]; rfl
theorem kSl_m {n : List Int32} (h : PC ci O T N a σ) : kSl n (a_k a) = -1 ↔ kFind n (a_k a) = none := by
  unfold kSl
  cases hk : kFind n (a_k a) with
  | none => exact ⟨fun _ => rfl, fun _ => rfl⟩
  | some e =>
    have hm := kFind_m hk
    obtain ⟨j, hj⟩ := List.mem_iff_getElem?.mp hm
    have h1 := (h.2.2.2.1.2.2.2.2.1 j _ hj).2.2.2.2
    have h2 := h.2.2.2.1.2.2.1
    have h1 : e.2 < a_m a := h1
    have nn : ∀ i : Nat, i < 100 → ¬ Int32.ofNat i = -1 := by decide
    exact ⟨fun z => absurd z (nn _ (by omega)), fun z => by cases z⟩
theorem c_readNewX {t x : Int32} {c : Bool} (hT : TK T N) (h : PC ci O T N a σ) (hx : a_x a = none) (hw : wN a = 0) (hc : x = 0 ↔ c = false) : SCI ci O T N (sm_callM X true (d + 3) 92 [vP (15, 0), vI t, vI x] σ) (zNewX T c t a) := by
  rw [f_X5_readNewName, q_X5_readNewName_0, PC_k h]
  unfold zNewX
  by_cases q : T.1 (a_p a) = 3
  · have hn := hT.2.2.2.1 _ q
    rw [if_pos q, if_pos q, PC_nm h q, c_slotOf hn h, bI_r]
    cases hk : kFind (T.2.1 (a_p a)) (a_k a) with
    | some e =>
      rw [if_neg (fun z => by rw [(kSl_m h).mp z] at hk; cases hk), PC_pl h]
      exact SCI_f (bindV (c_refuse h (by decide)) (fun σ F => fg_readNewName_70 F))
    | none =>
      rw [if_pos ((kSl_m h).mpr hk)]
      show SCI ci O T N _ (if c = true ∨ a_m a = 24 then _ else _)
      cases c with
      | true =>
        rw [if_neg (fun z => by have := hc.mp z; cases this), if_pos (Or.inl rfl), PC_pl h]
        exact SCI_f (bindV (c_refuse h (by decide)) (fun σ F => fg_readNewName_70 F))
      | false =>
        rw [if_pos (hc.mpr rfl), c_full h hx, bI_r]
        by_cases q2 : a_m a = 24
        · rw [if_pos q2, if_neg (by decide), if_pos (Or.inr q2), PC_pl h]
          exact SCI_f (bindV (c_refuse h (by decide)) (fun σ F => fg_readNewName_70 F))
        · rw [if_neg q2, if_pos rfl, if_neg (fun z => z.elim (fun w => by cases w) q2), q_X5_readNewName_70, PC_nm h q]
          have hm : a_m a < 24 := by
            have := h.2.2.2.1.2.2.1
            rw [hx] at this
            have this : a_m a ≤ 24 := this
            omega
          obtain ⟨σ1, e1, h1⟩ := c_make (X := X) (d := d) (t := t) h hx hm hn hw
          rw [e1, bI_r]
          have hz : ∀ k : Int32 → zA → zR, pb (zN a) (fun _ a2 => k 0 (aX a2 (some (T.2.1 (a_p a), t)))) = pb (zN (aX a (some (T.2.1 (a_p a), t)))) (fun _ a2 => k 0 a2) := by
            intro k
            unfold zN
            show pb (if a_p a = 800 then _ else _) _ = pb (if a_p a = 800 then _ else _) _
            split <;> rfl
          rw [hz (fun _ a2 => .inr (Int32.ofNat (a_m a), a2))]
          refine cbVI (c_pass (d := d + 1) hT h1 ?_ ?_) (fun _ a2 σ2 e2 h2 => ⟨σ2, rfl, h2⟩) (fun e σ F => ft_readNewName_70_s4 F)
          · show T.1 (a_p a) ≠ 6; rw [q]; decide
          · show T.1 (a_p a) ≠ 7; rw [q]; decide
  · rw [if_neg q, if_neg q, PC_pl h]
    exact SCI_f (bindV (c_refuse h (by decide)) (fun σ F => fg_readNewName_70 F))
theorem c_readNewN {t : Int32} (hT : TK T N) (h : PC ci O T N a σ) (hx : a_x a = none) (hw : wN a = 0) : SCI ci O T N (sm_callM X true (d + 3) 92 [vP (15, 0), vI t, vI 0] σ) (zNewN T t a) := by
  rw [zNewN_X]
  exact c_readNewX hT h hx hw ⟨fun _ => rfl, fun _ => rfl⟩
end
