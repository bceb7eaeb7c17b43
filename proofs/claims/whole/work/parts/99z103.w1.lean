section
/-! THE REFERENCE's READER STANDS WHERE THE PURE READING STANDS -/
variable {X : Nat × (Nat → Int32)} {d : Nat} {s σ : sm_S} {mi N : Nat} {O : Nat → Nat → Nat → Int32} {T : zT} {a b : zA}
def mvl (T : zT) (j : Nat) : Int64 := if T.1 j = 3 then pk8 (T.2.1 j) 0 else if 200 ≤ T.1 j then (T.1 j - 200).toInt64 else if T.1 j = 4 ∨ T.1 j = 5 ∨ T.1 j = 6 then T.2.2.1 j else if T.1 j = 1 then 300 else if T.1 j = 2 then 301 else (T.1 j).toInt64
def MT (T : zT) (N p : Nat) (σ : sm_S) : Prop := p ≤ 800 ∧ p ≤ N ∧ (∀ j, j ≤ N → σ.1 68 0 j = mkd (T.1 j) ∧ σ.1 69 0 j = T.2.2.2 j ∧ (T.1 j ≠ 7 → σ.2.1 70 0 j = mvl T j)) ∧ (σ.1 23 0 11 = Int32.ofNat p ∧ σ.1 23 0 9 = 0 ∧ σ.1 23 0 10 = -1)
/-- an item in the reference's code -/
def mOp (e : zI) : Nat := match e.1 with
  | 0 => 26 | 1 => 25 | 3 => 29 | 4 => 0 | 5 => 1 | 6 => 2 | 7 => 10 | 8 => 11 | 9 => 12 | 10 => 13 | 11 => 14 | 12 => 15 | 13 => 8 | 14 => 9 | 15 => 3 | 16 => 4 | 17 => 5 | 18 => 6 | 19 => 7 | 20 => 16 | 21 => 17 | 22 => 20 | 23 => 21
  | 24 => if e.2.1 = 1 then 23 else 24 | 25 => 22 | 26 => 19 | 27 => 18 | 28 => 18 | 29 => 18 | 30 => 18 | 31 => 18 | 32 => 18 | 33 => 27 | 34 => 28 | _ => 99
def mNum (l : List zI) (e : zI) : Int32 := match e.1 with
  | 0 => Int32.ofNat (pos vM l e.2.2.1) | 26 => Int32.ofNat (pos vM l e.2.2.1) | 33 => Int32.ofNat (pos vM l e.2.2.1) | 24 => 0 | 27 => e.2.1 - 5 | 28 => 12 | 29 => 13 | 30 => 14 | 31 => 15 | 32 => 16 | _ => e.2.1
def mSec (e : zI) : Int32 := match e.1 with
  | 33 => e.2.1 | _ => 0
theorem mNum_c {l m : List zI} {e : zI} (h : pos vM m e.2.2.1 = pos vM l e.2.2.1) : mNum m e = mNum l e := by
  unfold mNum; split <;> first | rfl | rw [h]
def MV (l : List zI) (mi : Nat) (σ : sm_S) : Prop := σ.1 22 mi 6 = Int32.ofNat (pos vM l l.length) ∧ (∀ k e, l[k]? = some e → vM e.1 = true → σ.1 63 mi (pos vM l k) = Int32.ofNat (mOp e) ∧ σ.1 64 mi (pos vM l k) = mNum l e ∧ σ.1 65 mi (pos vM l k) = mSec e ∧ σ.1 66 mi (pos vM l k) = e.2.2.2.1) ∧ ∀ e ∈ l, e.2.2.1 ≤ l.length
def MQp (l : List zI) (ps : List zP) (nb mi : Nat) (σ : sm_S) : Prop := σ.1 22 mi 0 = Int32.ofNat ps.length ∧ ps.length ≤ 12 ∧ (ps ≠ [] → σ.1 23 0 12 = Int32.ofNat (ps.length - 1)) ∧
  ∀ (i : Nat) (q : zP), ps[i]? = some q → σ.2.1 58 mi i = pk8 q.1 0 ∧ nmOk q.1 ∧ q.2.2.2 ≤ l.length ∧ (i < nb → σ.1 62 mi i = Int32.ofNat (pos vM l q.2.2.2)) ∧ q.2.2.1.length ≤ 4 ∧ σ.1 60 mi i = Int32.ofNat q.2.2.1.length ∧ σ.1 59 mi i = q.2.1 ∧ ∀ j t, q.2.2.1[j]? = some t → σ.1 61 mi (4 * i + j) = t
def MN (kn : List (List Int32 × Int32 × Nat)) (m : Nat) (σ : sm_S) : Prop := σ.1 23 0 15 = Int32.ofNat m ∧ σ.1 23 0 16 = Int32.ofNat kn.length ∧ m ≤ 24 ∧ kn.length ≤ m ∧
  ∀ (j : Nat) (e : List Int32 × Int32 × Nat), kn[j]? = some e → σ.2.1 71 0 j = pk8 e.1 0 ∧ σ.1 72 0 j = e.2.1 ∧ σ.1 73 0 j = Int32.ofNat e.2.2 ∧ nmOk e.1 ∧ e.2.2 < 24
def wCd (n : Nat) : Nat := match n with | 5 => 1 | 15 => 2 | 17 => 3 | _ => 0
def MX (T : zT) (N : Nat) (a : zA) (σ : sm_S) : Prop := (a_o a ≤ 10 → σ.1 23 0 13 = Int32.ofNat (a_o a)) ∧ (a_r a ≤ 8 → σ.1 23 0 14 = Int32.ofNat (a_r a)) ∧ (a_s a ≤ 4 → σ.1 23 0 20 = Int32.ofNat (a_s a)) ∧ ((a_w a).1 = 0 → σ.1 23 0 21 = 0) ∧ ((a_w a).1 = 5 ∨ (a_w a).1 = 15 ∨ (a_w a).1 = 17 → σ.1 23 0 21 = Int32.ofNat (wCd (a_w a).1) ∧ σ.1 23 0 22 = (a_w a).2.1 ∧ ∃ tk, tk ≤ N ∧ tk ≤ 800 ∧ σ.1 23 0 23 = Int32.ofNat tk ∧ T.2.2.2 tk = (a_w a).2.2.1)
def OM (mi : Nat) (O : Nat → Nat → Nat → Int32) (σ : sm_S) : Prop := ∀ t c k, c ≠ mi → (t = 22 ∨ (59 ≤ t ∧ t ≤ 66)) → σ.1 t c k = O t c k
def PM (mi : Nat) (O : Nat → Nat → Nat → Int32) (T : zT) (N : Nat) (a : zA) (σ : sm_S) : Prop := MT T N (a_p a) σ ∧ MV (a_i a) mi σ ∧ MQp (a_i a) (a_q a) (a_b a) mi σ ∧ MN (a_k a) (a_m a) σ ∧ MX T N a σ ∧ σ.2.2.1 23 0 7 = (22, mi) ∧ OM mi O σ
/-! writes elsewhere -/
theorem MT_o {p t i k : Nat} {x : Int32} (q : MT T N p σ) (h : ¬ (t = 23 ∧ (k = 9 ∨ k = 10 ∨ k = 11)) ∧ t ≠ 68 ∧ t ≠ 69) : MT T N p (sI σ t i k x) := by
  obtain ⟨a1, a2, a3, a4⟩ := q
  refine ⟨a1, a2, fun j hj => ?_, ⟨by rw [gI, if_neg (by omega)]; exact a4.1, by rw [gI, if_neg (by omega)]; exact a4.2.1, by rw [gI, if_neg (by omega)]; exact a4.2.2⟩⟩
  obtain ⟨b1, b2, b3⟩ := a3 j hj
  exact ⟨by rw [gI, if_neg (by omega)]; exact b1, by rw [gI, if_neg (by omega)]; exact b2, b3⟩
theorem MT_L {p t i k : Nat} {x : Int64} (q : MT T N p σ) (h : t ≠ 70) : MT T N p (sL σ t i k x) := by
  obtain ⟨a1, a2, a3, a4⟩ := q
  refine ⟨a1, a2, fun j hj => ?_, a4⟩
  obtain ⟨b1, b2, b3⟩ := a3 j hj
  exact ⟨b1, b2, fun z => by rw [gL, if_neg (by omega)]; exact b3 z⟩
theorem MV_o {l : List zI} {t i k : Nat} {x : Int32} (q : MV l mi σ) (h : ¬ (t = 22 ∧ k = 6) ∧ t ≠ 63 ∧ t ≠ 64 ∧ t ≠ 65 ∧ t ≠ 66) : MV l mi (sI σ t i k x) := by
  obtain ⟨a1, a2, a3⟩ := q
  refine ⟨by rw [gI, if_neg (by omega)]; exact a1, fun j e hj hv => ?_, a3⟩
  obtain ⟨b1, b2, b3, b4⟩ := a2 j e hj hv
  exact ⟨by rw [gI, if_neg (by omega)]; exact b1, by rw [gI, if_neg (by omega)]; exact b2, by rw [gI, if_neg (by omega)]; exact b3, by rw [gI, if_neg (by omega)]; exact b4⟩
theorem MQp_o {l : List zI} {ps : List zP} {nb t i k : Nat} {x : Int32} (q : MQp l ps nb mi σ) (h : ¬ (t = 22 ∧ k = 0) ∧ ¬ (t = 23 ∧ k = 12) ∧ t ≠ 59 ∧ t ≠ 60 ∧ t ≠ 61 ∧ t ≠ 62) : MQp l ps nb mi (sI σ t i k x) := by
  obtain ⟨a1, a2, a3, a4⟩ := q
  refine ⟨by rw [gI, if_neg (by omega)]; exact a1, a2, fun z => by rw [gI, if_neg (by omega)]; exact a3 z, fun j e hj => ?_⟩
  obtain ⟨b1, b2, b3, b4, b5, b6, b7, b8⟩ := a4 j e hj
  exact ⟨b1, b2, b3, fun z => by rw [gI, if_neg (by omega)]; exact b4 z, b5, by rw [gI, if_neg (by omega)]; exact b6, by rw [gI, if_neg (by omega)]; exact b7, fun n t hn => by rw [gI, if_neg (by omega)]; exact b8 n t hn⟩
theorem MQp_L {l : List zI} {ps : List zP} {nb t i k : Nat} {x : Int64} (q : MQp l ps nb mi σ) (h : t ≠ 58) : MQp l ps nb mi (sL σ t i k x) := by
  obtain ⟨a1, a2, a3, a4⟩ := q
  refine ⟨a1, a2, a3, fun j e hj => ?_⟩
  obtain ⟨b1, b⟩ := a4 j e hj
  exact ⟨by rw [gL, if_neg (by omega)]; exact b1, b⟩
theorem MQp_app {l m : List zI} {ps : List zP} {nb : Nat} (q : MQp l ps nb mi σ) : MQp (l ++ m) ps nb mi σ := by
  obtain ⟨a1, a2, a3, a4⟩ := q
  refine ⟨a1, a2, a3, fun j e hj => ?_⟩
  obtain ⟨b1, b2, b3, b4, b⟩ := a4 j e hj
  exact ⟨b1, b2, by rw [List.length_append]; omega, fun z => by rw [pos_app b3]; exact b4 z, b⟩
theorem MQp_mod {l : List zI} {ps : List zP} {nb k : Nat} {f : zI → zI} (hf : ∀ e, (f e).1 = e.1) (q : MQp l ps nb mi σ) : MQp (l.modify k f) ps nb mi σ := by
  obtain ⟨a1, a2, a3, a4⟩ := q
  refine ⟨a1, a2, a3, fun j e hj => ?_⟩
  obtain ⟨b1, b2, b3, b4, b⟩ := a4 j e hj
  exact ⟨b1, b2, by rw [List.length_modify]; exact b3, fun z => by rw [pos_mod hf]; exact b4 z, b⟩
theorem MN_o {kn : List (List Int32 × Int32 × Nat)} {m t i k : Nat} {x : Int32} (q : MN kn m σ) (h : ¬ (t = 23 ∧ (k = 15 ∨ k = 16)) ∧ t ≠ 72 ∧ t ≠ 73) : MN kn m (sI σ t i k x) := by
  obtain ⟨a1, a2, a3, a4, a5⟩ := q
  refine ⟨by rw [gI, if_neg (by omega)]; exact a1, by rw [gI, if_neg (by omega)]; exact a2, a3, a4, fun j e hj => ?_⟩
  obtain ⟨b1, b2, b3, b⟩ := a5 j e hj
  exact ⟨b1, by rw [gI, if_neg (by omega)]; exact b2, by rw [gI, if_neg (by omega)]; exact b3, b⟩
theorem MN_L {kn : List (List Int32 × Int32 × Nat)} {m t i k : Nat} {x : Int64} (q : MN kn m σ) (h : t ≠ 71) : MN kn m (sL σ t i k x) := by
  obtain ⟨a1, a2, a3, a4, a5⟩ := q
  refine ⟨a1, a2, a3, a4, fun j e hj => ?_⟩
  obtain ⟨b1, b⟩ := a5 j e hj
  exact ⟨by rw [gL, if_neg (by omega)]; exact b1, b⟩
theorem MX_o {t i k : Nat} {x : Int32} (q : MX T N a σ) (h : ¬ (t = 23 ∧ (k = 13 ∨ k = 14 ∨ k = 20 ∨ k = 21 ∨ k = 22 ∨ k = 23))) : MX T N a (sI σ t i k x) := by
  have n1 : ¬ (23 = t ∧ 0 = i ∧ 21 = k) := by omega
  have n2 : ¬ (23 = t ∧ 0 = i ∧ 22 = k) := by omega
  have n3 : ¬ (23 = t ∧ 0 = i ∧ 23 = k) := by omega
  obtain ⟨a1, a2, a3, a4, a5⟩ := q
  refine ⟨fun z => by rw [gI, if_neg (by omega)]; exact a1 z, fun z => by rw [gI, if_neg (by omega)]; exact a2 z, fun z => by rw [gI, if_neg (by omega)]; exact a3 z, fun z => by rw [gI, if_neg (by omega)]; exact a4 z, fun z => ?_⟩
  obtain ⟨b1, b2, tk, b3, b4, b5, b6⟩ := a5 z
  exact ⟨by rw [gI, if_neg n1]; exact b1, by rw [gI, if_neg n2]; exact b2, tk, b3, b4, by rw [gI, if_neg n3]; exact b5, b6⟩
theorem OM_I {t i k : Nat} {v : Int32} (h : OM mi O σ) (hi : t = 22 ∨ (59 ≤ t ∧ t ≤ 66) → i = mi) : OM mi O (sI σ t i k v) := by
  intro t' c k' hc ht
  rw [gI, if_neg (fun q => by obtain ⟨q1, q2, -⟩ := q; subst q1; exact hc (q2.trans (hi ht)))]
  exact h t' c k' hc ht
/-! how a call of the reference comes to what is read -/
def Thr (f pl : Int32) (mi : Nat) (O : Nat → Nat → Nat → Int32) (r : sm_R) : Prop := ∃ σ', r = some (none, σ') ∧ σ'.1 23 0 9 = f ∧ σ'.1 23 0 10 = pl ∧ OM mi O σ' ∧ σ'.2.2.1 23 0 7 = (22, mi)
def SMV (mi : Nat) (O : Nat → Nat → Nat → Int32) (T : zT) (N : Nat) (r : sm_R) (z : zR) : Prop := match z with
  | .inl e => Thr e.1 (T.2.2.2 e.2) mi O r
  | .inr x => ∃ σ', r = rV σ' ∧ PM mi O T N x.2 σ'
def SMI (mi : Nat) (O : Nat → Nat → Nat → Int32) (T : zT) (N : Nat) (r : sm_R) (z : zR) : Prop := match z with
  | .inl e => Thr e.1 (T.2.2.2 e.2) mi O r
  | .inr x => ∃ σ', r = rI x.1 σ' ∧ PM mi O T N x.2 σ'
theorem mbVV {r : sm_R} {z : zR} {k : sm_S → sm_R} {k' : Int32 → zA → zR} (h : SMV mi O T N r z) (hok : ∀ y a σ, z = .inr (y, a) → PM mi O T N a σ → SMV mi O T N (k σ) (k' y a)) : SMV mi O T N (sm_bV r sm_tw k) (pb z k') := by
  rcases z with e | ⟨y, a⟩
  · obtain ⟨σ', rfl, F⟩ := h; exact ⟨σ', rfl, F⟩
  · obtain ⟨σ', rfl, P⟩ := h; exact hok y a σ' rfl P
theorem mbVI {r : sm_R} {z : zR} {k : sm_S → sm_R} {k' : Int32 → zA → zR} (h : SMV mi O T N r z) (hok : ∀ y a σ, z = .inr (y, a) → PM mi O T N a σ → SMI mi O T N (k σ) (k' y a)) : SMI mi O T N (sm_bV r sm_tw k) (pb z k') := by
  rcases z with e | ⟨y, a⟩
  · obtain ⟨σ', rfl, F⟩ := h; exact ⟨σ', rfl, F⟩
  · obtain ⟨σ', rfl, P⟩ := h; exact hok y a σ' rfl P
theorem mbIV {r : sm_R} {z : zR} {k : Int32 → sm_S → sm_R} {k' : Int32 → zA → zR} (h : SMI mi O T N r z) (hok : ∀ y a σ, z = .inr (y, a) → PM mi O T N a σ → SMV mi O T N (k y σ) (k' y a)) : SMV mi O T N (sm_bI r sm_tw k) (pb z k') := by
  rcases z with e | ⟨y, a⟩
  · obtain ⟨σ', rfl, F⟩ := h; exact ⟨σ', rfl, F⟩
  · obtain ⟨σ', rfl, P⟩ := h; exact hok y a σ' rfl P
theorem mbII {r : sm_R} {z : zR} {k : Int32 → sm_S → sm_R} {k' : Int32 → zA → zR} (h : SMI mi O T N r z) (hok : ∀ y a σ, z = .inr (y, a) → PM mi O T N a σ → SMI mi O T N (k y σ) (k' y a)) : SMI mi O T N (sm_bI r sm_tw k) (pb z k') := by
  rcases z with e | ⟨y, a⟩
  · obtain ⟨σ', rfl, F⟩ := h; exact ⟨σ', rfl, F⟩
  · obtain ⟨σ', rfl, P⟩ := h; exact hok y a σ' rfl P
theorem PM_len (h : PM mi O T N a σ) : a_p a ≤ 800 := h.1.1
theorem PM_at (h : PM mi O T N a σ) : σ.1 23 0 11 = Int32.ofNat (a_p a) := h.1.2.2.2.1
theorem PM_cd (h : PM mi O T N a σ) : σ.2.2.1 23 0 7 = (22, mi) := h.2.2.2.2.2.1
theorem PM_kd (h : PM mi O T N a σ) : σ.1 68 0 (a_p a) = mkd (T.1 (a_p a)) := (h.1.2.2.1 _ h.1.2.1).1
theorem PM_vl (h : PM mi O T N a σ) (h7 : T.1 (a_p a) ≠ 7) : σ.2.1 70 0 (a_p a) = mvl T (a_p a) := (h.1.2.2.1 _ h.1.2.1).2.2 h7
theorem PM_ix {f : Nat → sm_R} (h : PM mi O T N a σ) : sm_ix (σ.1 23 0 11) 803 f = f (a_p a) := by
  rw [PM_at h, ix_nat (by have := PM_len h; omega) (by decide)]
theorem mkd_4 {k : Int32} (h : mkd k = 4) : k ≠ 3 ∧ ¬ 200 ≤ k ∧ ¬ (k = 4 ∨ k = 5 ∨ k = 6) ∧ k ≠ 7 := by
  unfold mkd at h
  by_cases h6 : k = 6
  · rw [if_pos h6] at h; exact absurd h (by decide)
  rw [if_neg h6] at h
  by_cases h7 : k = 7
  · rw [if_pos h7] at h; exact absurd h (by decide)
  rw [if_neg h7] at h
  by_cases h3 : k = 3
  · rw [if_pos h3] at h; exact absurd h (by decide)
  rw [if_neg h3] at h
  by_cases h200 : 200 ≤ k
  · rw [if_pos h200] at h; exact absurd h (by decide)
  rw [if_neg h200] at h
  by_cases h5 : k = 5
  · rw [if_pos h5] at h; exact absurd h (by decide)
  rw [if_neg h5] at h
  by_cases h4 : k = 4
  · rw [if_pos h4] at h; exact absurd h (by decide)
  exact ⟨h3, h200, fun z => z.elim h4 (fun z => z.elim h5 h6), h7⟩
theorem mkd_v (k : Int32) : (mkd k = 1 ↔ k = 3) ∧ (mkd k = 2 ↔ k = 5) ∧ (mkd k = 3 ↔ k = 4) ∧ (mkd k = 7 ↔ k = 6) ∧ (mkd k = 5 → 200 ≤ k ∧ k ≠ 3 ∧ k ≠ 7) := by
  unfold mkd
  by_cases h6 : k = 6
  · rw [if_pos h6, h6]; decide
  rw [if_neg h6]
  by_cases h7 : k = 7
  · rw [if_pos h7, h7]; decide
  rw [if_neg h7]
  by_cases h3 : k = 3
  · rw [if_pos h3, h3]; decide
  rw [if_neg h3]
  by_cases h200 : 200 ≤ k
  · rw [if_pos h200]
    have n5 : ¬ k = 5 := fun z => by rw [z] at h200; exact absurd h200 (by decide)
    have n4 : ¬ k = 4 := fun z => by rw [z] at h200; exact absurd h200 (by decide)
    simp [h3, n5, n4, h6, h200, h7]
  rw [if_neg h200]
  by_cases h5 : k = 5
  · rw [if_pos h5, h5]; decide
  rw [if_neg h5]
  by_cases h4 : k = 4
  · rw [if_pos h4, h4]; decide
  rw [if_neg h4]
  simp [h3, h5, h4, h6]
theorem i64_inj {x y : Int32} (h : x.toInt64 = y.toInt64) : x = y := by
  have := congrArg Int64.toInt32 h
  rw [Int32.toInt32_toInt64, Int32.toInt32_toInt64] at this
  exact this
/-- a sign is looked for -/
theorem m_is {c : Int32} (h : PM mi O T N a σ) (hc : mkd c = 4 ∧ c ≠ 1 ∧ c ≠ 2 ∧ c ≠ 300 ∧ c ≠ 301) : sm_callM X true (d + 1) 204 [vP (23, 0), vI c] σ = rI (if T.1 (a_p a) = c then 1 else 0) σ := by
  rw [f_X13_is, q_X13_is_0, PM_ix h, PM_kd h]
  by_cases q : mkd (T.1 (a_p a)) = 4
  · obtain ⟨n3, n200, n456, n7⟩ := mkd_4 q
    rw [if_pos q, PM_ix h, PM_vl h n7]
    have hv : (lg_cmp (mvl T (a_p a)) c.toInt64 = 0) ↔ T.1 (a_p a) = c := by
      rw [lgc]
      unfold mvl
      rw [if_neg n3, if_neg n200, if_neg n456]
      by_cases k1 : T.1 (a_p a) = 1
      · rw [if_pos k1, k1]
        exact ⟨fun z => absurd (i64_inj (x := 300) z).symm hc.2.2.2.1, fun z => absurd z.symm hc.2.1⟩
      · rw [if_neg k1]
        by_cases k2 : T.1 (a_p a) = 2
        · rw [if_pos k2, k2]
          exact ⟨fun z => absurd (i64_inj (x := 301) z).symm hc.2.2.2.2, fun z => absurd z.symm hc.2.2.1⟩
        · rw [if_neg k2]
          exact ⟨fun z => i64_inj z, fun z => by rw [z]⟩
    by_cases k : T.1 (a_p a) = c
    · rw [if_pos (hv.mpr k), if_pos k]
    · rw [if_neg (fun z => k (hv.mp z)), if_neg k]
  · rw [if_neg q, if_neg (fun z => q (by rw [z]; exact hc.1))]
theorem m_is2 {c v : Int32} (h : PM mi O T N a σ) (hc : (c = 1 ∧ v = 300) ∨ (c = 2 ∧ v = 301)) : sm_callM X true (d + 1) 204 [vP (23, 0), vI v] σ = rI (if T.1 (a_p a) = c then 1 else 0) σ := by
  rw [f_X13_is, q_X13_is_0, PM_ix h, PM_kd h]
  by_cases q : mkd (T.1 (a_p a)) = 4
  · obtain ⟨n3, n200, n456, n7⟩ := mkd_4 q
    rw [if_pos q, PM_ix h, PM_vl h n7]
    have hv : (lg_cmp (mvl T (a_p a)) v.toInt64 = 0) ↔ T.1 (a_p a) = c := by
      rw [lgc]
      unfold mvl
      rw [if_neg n3, if_neg n200, if_neg n456]
      have h3 : T.1 (a_p a) ≠ 300 := fun z => n200 (by rw [z]; decide)
      have h4 : T.1 (a_p a) ≠ 301 := fun z => n200 (by rw [z]; decide)
      by_cases k1 : T.1 (a_p a) = 1
      · rw [if_pos k1, k1]
        rcases hc with ⟨rfl, rfl⟩ | ⟨rfl, rfl⟩ <;> decide
      · rw [if_neg k1]
        by_cases k2 : T.1 (a_p a) = 2
        · rw [if_pos k2, k2]
          rcases hc with ⟨rfl, rfl⟩ | ⟨rfl, rfl⟩ <;> decide
        · rw [if_neg k2]
          rcases hc with ⟨rfl, rfl⟩ | ⟨rfl, rfl⟩
          · exact ⟨fun z => absurd (i64_inj z) h3, fun z => absurd z k1⟩
          · exact ⟨fun z => absurd (i64_inj z) h4, fun z => absurd z k2⟩
    by_cases k : T.1 (a_p a) = c
    · rw [if_pos (hv.mpr k), if_pos k]
    · rw [if_neg (fun z => k (hv.mp z)), if_neg k]
  · rw [if_neg q, if_neg (fun z => q (by rw [z]; rcases hc with ⟨rfl, -⟩ | ⟨rfl, -⟩ <;> decide))]
theorem m_isWord {j : Nat} (h : PM mi O T N a σ) (hj : j < 15) : sm_callM X true (d + 1) 205 [vP (23, 0), vI (Int32.ofNat j)] σ = rI (if T.1 (a_p a) = 200 + Int32.ofNat j then 1 else 0) σ := by
  obtain ⟨w1, w2, w3, w4, w5⟩ := mkd_w j hj
  rw [f_X13_isWord, q_X13_isWord_0, PM_ix h, PM_kd h]
  by_cases q : mkd (T.1 (a_p a)) = 5
  · obtain ⟨n200, n3, n7⟩ := (mkd_v _).2.2.2.2 q
    rw [if_pos q, PM_ix h, PM_vl h n7]
    have hv : (lg_cmp (mvl T (a_p a)) (Int32.ofNat j).toInt64 = 0) ↔ T.1 (a_p a) = 200 + Int32.ofNat j := by
      rw [lgc]
      unfold mvl
      rw [if_neg n3, if_pos n200]
      constructor
      · intro z
        have := i64_inj z
        rw [← this, Int32.add_comm, Int32.sub_add_cancel]
      · intro z; rw [z, w4]
    by_cases k : T.1 (a_p a) = 200 + Int32.ofNat j
    · rw [if_pos (hv.mpr k), if_pos k]
    · rw [if_neg (fun z => k (hv.mp z)), if_neg k]
  · rw [if_neg q, if_neg (fun z => q (by rw [z]; exact w1))]
/-- a fault is thrown -/
theorem m_throw {f : Int32} {tk : Nat} (h : PM mi O T N a σ) (ht : tk ≤ N) (ht8 : tk ≤ 801) : Thr f (T.2.2.2 tk) mi O (sm_bP (sm_callM X true (d + 1) 200 [vP (23, 0), vI f, vI (Int32.ofNat tk)] σ) sm_tw fun y1 s2 => sm_rq y1 24 fun _ => sm_tw s2) := by
  rw [f_X13_fails, q_X13_fails_0, ix_nat (by omega) (by decide)]
  refine ⟨_, rfl, ?_, ?_, OM_I (OM_I h.2.2.2.2.2.2 (by omega)) (by omega), (show σ.2.2.1 23 0 7 = (22, mi) from PM_cd h)⟩
  · rw [gI, if_neg (by omega), gI, if_pos ⟨rfl, rfl, rfl⟩]
  · rw [gI, if_pos ⟨rfl, rfl, rfl⟩, gI, if_neg (by omega)]; exact (h.1.2.2.1 tk ht).2.1
theorem m_form {x : Int32} {c : Prop} [Decidable c] (h : PM mi O T N a σ) (hx : x = 0 ↔ ¬ c) : SMV mi O T N (sm_callM X true (d + 2) 201 [vP (23, 0), vI x] σ) (if c then .inr (0, a) else .inl (1, a_p a)) := by
  rw [f_X13_form, q_X13_form_0, PM_at h]
  by_cases q : c
  · rw [if_neg (fun z => (hx.mp z) q), if_pos q]
    exact ⟨σ, rfl, h⟩
  · rw [if_pos (hx.mpr q), if_neg q]
    exact m_throw h h.1.2.1 (by have := PM_len h; omega)
theorem m_types {x : Int32} {tk : Nat} {c : Prop} [Decidable c] (h : PM mi O T N a σ) (hx : x = 0 ↔ ¬ c) (ht : tk ≤ N) (ht8 : tk ≤ 801) : SMV mi O T N (sm_callM X true (d + 2) 202 [vP (23, 0), vI x, vI (Int32.ofNat tk)] σ) (if c then .inr (0, a) else .inl (4, tk)) := by
  rw [f_X13_types, q_X13_types_0]
  by_cases q : c
  · rw [if_neg (fun z => (hx.mp z) q), if_pos q]
    exact ⟨σ, rfl, h⟩
  · rw [if_pos (hx.mpr q), if_neg q]
    exact m_throw h ht ht8
theorem m_next (hT : TK T N) (h : PM mi O T N a σ) (h6 : T.1 (a_p a) ≠ 6) (h7 : T.1 (a_p a) ≠ 7) : SMV mi O T N (sm_callM X true (d + 2) 203 [vP (23, 0)] σ) (zN a) := by
  rw [f_X13_next, q_X13_next_0, PM_at h]
  unfold zN
  have hp := PM_len h
  by_cases q : a_p a = 800
  · rw [if_pos (by rw [q]; rfl), if_pos q]
    have := m_throw (X := X) (d := d) (f := 5) (tk := a_p a) h h.1.2.1 (by omega)
    rw [q] at this ⊢
    exact this
  · have hN : a_p a < N := by
      rcases Nat.lt_or_ge (a_p a) N with z | z
      · exact z
      · exfalso
        have e : a_p a = N := by have := h.1.2.1; omega
        rw [e] at h6 h7 q
        rcases hT.2.2.1 with w | w | w
        · exact h6 w
        · exact h7 w
        · omega
    rw [if_neg (by rw [show (800 : Int32) = Int32.ofNat 800 from rfl, i_eq (by omega) (by omega)]; exact q), if_neg q, i_s]
    obtain ⟨⟨a1, a2, a3, a4⟩, b1, b2, b3, b4, b5, b6⟩ := h
    refine ⟨_, rfl, ⟨by show a_p a + 1 ≤ 800; omega, hN, fun j hj => ?_, ⟨by rw [gI, if_pos ⟨rfl, rfl, rfl⟩]; rfl, by rw [gI, if_neg (by omega)]; exact a4.2.1, by rw [gI, if_neg (by omega)]; exact a4.2.2⟩⟩, MV_o b1 (by omega), MQp_o b2 (by omega), MN_o b3 (by omega), ?_, (show σ.2.2.1 23 0 7 = (22, mi) from b5), OM_I b6 (by omega)⟩
    · obtain ⟨c1, c2, c3⟩ := a3 j hj
      exact ⟨by rw [gI, if_neg (by omega)]; exact c1, by rw [gI, if_neg (by omega)]; exact c2, c3⟩
    · exact MX_o (a := a) b4 (by omega)
end
