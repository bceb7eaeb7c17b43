section
/-! THE CLASS's READER STANDS WHERE THE PURE READING STANDS -/
variable {X : Nat × (Nat → Int32)} {d : Nat} {s σ : sm_S} {ci N : Nat} {O : Nat → Nat → Nat → Int32} {T : zT} {a b : zA}
/-- a token's value in the class -/
def cvl (T : zT) (j : Nat) : Int64 := if T.1 j = 3 ∨ 200 ≤ T.1 j then pk7 (T.2.1 j) 0 else T.2.2.1 j
/-- what is known of all tokens; N is the last -/
def TK (T : zT) (N : Nat) : Prop := N ≤ 801 ∧ (∀ i, i < N → T.1 i ≠ 6 ∧ T.1 i ≠ 7) ∧ (T.1 N = 6 ∨ T.1 N = 7 ∨ N = 801) ∧ (∀ i, T.1 i = 3 → nmOk (T.2.1 i)) ∧ (∀ i, T.1 i = 5 → (∃ k, k < 18 ∧ T.2.2.1 i = (Int32.ofNat k).toInt64) ∨ T.2.2.1 i = (36 : Int32).toInt64) ∧ ∀ i, T.1 i ≠ 0
def PT (T : zT) (N p : Nat) (σ : sm_S) : Prop := p ≤ 800 ∧ p ≤ N ∧ (∀ j, j ≤ N → σ.1 53 0 j = T.1 j ∧ σ.1 54 0 j = T.2.2.2 j ∧ (T.1 j ≠ 7 → σ.2.1 55 0 j = cvl T j)) ∧ σ.1 17 0 7 = Int32.ofNat (N + 1) ∧ σ.1 15 0 5 = Int32.ofNat p ∧ σ.1 15 0 6 = T.1 p ∧ σ.1 15 0 7 = T.2.2.2 p ∧ (T.1 p ≠ 7 → σ.2.1 15 0 8 = cvl T p) ∧ σ.1 15 0 9 = (if p < N then T.1 (p + 1) else 0) ∧ (σ.1 15 0 11 = 0 ∧ σ.1 15 0 12 = -1)
/-- the items with what waits, as the class has written it -/
def zIW (a : zA) : List zI := if (a_w a).1 = 5 ∨ (a_w a).1 = 15 ∨ (a_w a).1 = 17 then a_i a ++ [((a_w a).1, (a_w a).2.1, 0, (a_w a).2.2.1, (a_w a).2.2.2, gNow a)] else a_i a
def PQ (l : List zI) (ps : List zP) (ci : Nat) (σ : sm_S) : Prop := σ.1 10 ci 9 = Int32.ofNat (5 + ps.length) ∧ ps.length ≤ 12 ∧
  F5 ci σ ∧
  ∀ (i : Nat) (q : zP), ps[i]? = some q → σ.2.1 50 0 i = pk7 q.1 0 ∧ nmOk q.1 ∧ q.2.2.2 ≤ l.length ∧ σ.1 35 ci (5 + i) = Int32.ofNat (pos vC l q.2.2.2) ∧ q.2.2.1.length ≤ 4 ∧ σ.1 36 ci (5 + i) = Int32.ofNat q.2.2.1.length ∧ σ.1 38 ci (5 + i) = q.2.1 ∧ ∀ j t, q.2.2.1[j]? = some t → σ.1 37 ci ((5 + i) * 4 + j) = t
def xN (x : Option (List Int32 × Int32)) : Nat := match x with | none => 0 | some _ => 1
def PN (kn : List (List Int32 × Int32 × Nat)) (m : Nat) (x : Option (List Int32 × Int32)) (σ : sm_S) : Prop := σ.1 14 0 3 = Int32.ofNat (m + xN x) ∧ σ.1 14 0 4 = Int32.ofNat kn.length ∧ m + xN x ≤ 24 ∧ kn.length ≤ m ∧
  (∀ (j : Nat) (e : List Int32 × Int32 × Nat), kn[j]? = some e → σ.1 49 0 j = Int32.ofNat e.2.2 ∧ σ.2.1 47 0 e.2.2 = pk7 e.1 0 ∧ σ.1 48 0 e.2.2 = e.2.1 ∧ nmOk e.1 ∧ e.2.2 < m) ∧ ∀ n t, x = some (n, t) → σ.2.1 47 0 m = pk7 n 0 ∧ σ.1 48 0 m = t ∧ nmOk n
/-- all but the token -/
def PR (ci : Nat) (O : Nat → Nat → Nat → Int32) (a : zA) (σ : sm_S) : Prop := CV (zIW a) (a_c a) (a_h a) ci σ ∧ PQ (zIW a) (a_q a) ci σ ∧ PN (a_k a) (a_m a) (a_x a) σ ∧ CI ci O σ ∧ (a_q a ≠ [] → σ.1 15 0 4 = Int32.ofNat (4 + (a_q a).length))
def PC (ci : Nat) (O : Nat → Nat → Nat → Int32) (T : zT) (N : Nat) (a : zA) (σ : sm_S) : Prop := PT T N (a_p a) σ ∧ PR ci O a σ
theorem PQ_o {l : List zI} {ps : List zP} {t i k : Nat} {x : Int32} (q : PQ l ps ci σ) (h1 : ¬ (t = 10 ∧ k = 9)) (h2 : t ≠ 35) (h3 : t ≠ 36) (h4 : t ≠ 37) (h5 : t ≠ 38) : PQ l ps ci (sI σ t i k x) := by
  obtain ⟨a1, a2, a3, a4⟩ := q
  refine ⟨?_, a2, fun j hj => ?_, fun j q hj => ?_⟩
  · rw [gI, if_neg (fun z => h1 ⟨z.1.symm, z.2.2.symm⟩)]; exact a1
  · obtain ⟨b1, b2, b3⟩ := a3 j hj
    exact ⟨by rw [gI, if_neg (fun z => h3 z.1.symm)]; exact b1, by rw [gI, if_neg (fun z => h5 z.1.symm)]; exact b2, fun n t hn => by rw [gI, if_neg (fun z => h4 z.1.symm)]; exact b3 n t hn⟩
  · obtain ⟨b1, b2, b3, b4, b5, b6, b7, b8⟩ := a4 j q hj
    exact ⟨b1, b2, b3, by rw [gI, if_neg (fun z => h2 z.1.symm)]; exact b4, b5, by rw [gI, if_neg (fun z => h3 z.1.symm)]; exact b6, by rw [gI, if_neg (fun z => h5 z.1.symm)]; exact b7, fun n t hn => by rw [gI, if_neg (fun z => h4 z.1.symm)]; exact b8 n t hn⟩
theorem PQ_L {l : List zI} {ps : List zP} {t i k : Nat} {x : Int64} (q : PQ l ps ci σ) (h1 : t ≠ 50) : PQ l ps ci (sL σ t i k x) := by
  obtain ⟨a1, a2, a3, a4⟩ := q
  refine ⟨a1, a2, a3, fun j q hj => ?_⟩
  obtain ⟨b1, b⟩ := a4 j q hj
  exact ⟨by rw [gL, if_neg (fun z => h1 z.1.symm)]; exact b1, b⟩
theorem PN_o {kn : List (List Int32 × Int32 × Nat)} {m : Nat} {y : Option (List Int32 × Int32)} {t i k : Nat} {x : Int32} (q : PN kn m y σ) (h1 : t ≠ 14) (h2 : t ≠ 48) (h3 : t ≠ 49) : PN kn m y (sI σ t i k x) := by
  obtain ⟨a1, a2, a3, a4, a5, a6⟩ := q
  refine ⟨by rw [gI, if_neg (fun z => h1 z.1.symm)]; exact a1, by rw [gI, if_neg (fun z => h1 z.1.symm)]; exact a2, a3, a4, fun j e hj => ?_, fun n t hx => ?_⟩
  · obtain ⟨b1, b2, b3, b⟩ := a5 j e hj
    exact ⟨by rw [gI, if_neg (fun z => h3 z.1.symm)]; exact b1, b2, by rw [gI, if_neg (fun z => h2 z.1.symm)]; exact b3, b⟩
  · obtain ⟨b1, b2, b3⟩ := a6 n t hx
    exact ⟨b1, by rw [gI, if_neg (fun z => h2 z.1.symm)]; exact b2, b3⟩
theorem PN_L {kn : List (List Int32 × Int32 × Nat)} {m : Nat} {y : Option (List Int32 × Int32)} {t i k : Nat} {x : Int64} (q : PN kn m y σ) (h1 : t ≠ 47) : PN kn m y (sL σ t i k x) := by
  obtain ⟨a1, a2, a3, a4, a5, a6⟩ := q
  refine ⟨a1, a2, a3, a4, fun j e hj => ?_, fun n t hx => ?_⟩
  · obtain ⟨b1, b2, b⟩ := a5 j e hj
    exact ⟨b1, by rw [gL, if_neg (fun z => h1 z.1.symm)]; exact b2, b⟩
  · obtain ⟨b1, b⟩ := a6 n t hx
    exact ⟨by rw [gL, if_neg (fun z => h1 z.1.symm)]; exact b1, b⟩
theorem PR_15 {k : Nat} {x : Int32} (q : PR ci O a σ) (hk : k ≠ 4) : PR ci O a (sI σ 15 0 k x) := by
  obtain ⟨a1, a2, a3, a4, a5⟩ := q
  exact ⟨CV_o a1 (by omega) (by omega) (by omega) (by omega) (by omega) (by omega), PQ_o a2 (by omega) (by omega) (by omega) (by omega) (by omega), PN_o a3 (by omega) (by omega) (by omega), CI_o a4 (by omega) (by omega) (by omega) (by omega) (by omega), fun h => by rw [gI, if_neg (by omega)]; exact a5 h⟩
theorem PR_L {k : Nat} {x : Int64} (q : PR ci O a σ) : PR ci O a (sL σ 15 0 k x) := by
  obtain ⟨a1, a2, a3, a4, a5⟩ := q
  exact ⟨a1, PQ_L a2 (by omega), PN_L a3 (by omega), a4, a5⟩
theorem PT_o {p t i k : Nat} {x : Int32} (q : PT T N p σ) (h1 : ¬ (t = 15 ∧ (k = 5 ∨ k = 6 ∨ k = 7 ∨ k = 9 ∨ k = 11 ∨ k = 12))) (h2 : t ≠ 17) (h3 : t ≠ 53) (h4 : t ≠ 54) : PT T N p (sI σ t i k x) := by
  obtain ⟨a1, a2, a3, a4, a5, a6, a7, a8, a9, a10⟩ := q
  refine ⟨a1, a2, fun j hj => ?_, by rw [gI, if_neg (fun z => h2 z.1.symm)]; exact a4, by rw [gI, if_neg (fun z => h1 ⟨z.1.symm, Or.inl z.2.2.symm⟩)]; exact a5, by rw [gI, if_neg (fun z => h1 ⟨z.1.symm, Or.inr (Or.inl z.2.2.symm)⟩)]; exact a6, by rw [gI, if_neg (fun z => h1 ⟨z.1.symm, Or.inr (Or.inr (Or.inl z.2.2.symm))⟩)]; exact a7, a8, by rw [gI, if_neg (fun z => h1 ⟨z.1.symm, Or.inr (Or.inr (Or.inr (Or.inl z.2.2.symm)))⟩)]; exact a9, ⟨by rw [gI, if_neg (fun z => h1 ⟨z.1.symm, Or.inr (Or.inr (Or.inr (Or.inr (Or.inl z.2.2.symm))))⟩)]; exact a10.1, by rw [gI, if_neg (fun z => h1 ⟨z.1.symm, Or.inr (Or.inr (Or.inr (Or.inr (Or.inr z.2.2.symm))))⟩)]; exact a10.2⟩⟩
  obtain ⟨b1, b2, b3⟩ := a3 j hj
  exact ⟨by rw [gI, if_neg (fun z => h3 z.1.symm)]; exact b1, by rw [gI, if_neg (fun z => h4 z.1.symm)]; exact b2, b3⟩
theorem PT_L {p t i k : Nat} {x : Int64} (q : PT T N p σ) (h1 : ¬ (t = 15 ∧ k = 8)) (h2 : t ≠ 55) : PT T N p (sL σ t i k x) := by
  obtain ⟨a1, a2, a3, a4, a5, a6, a7, a8, a9, a10⟩ := q
  refine ⟨a1, a2, fun j hj => ?_, a4, a5, a6, a7, fun h => by rw [gL, if_neg (fun z => h1 ⟨z.1.symm, z.2.2.symm⟩)]; exact a8 h, a9, a10⟩
  obtain ⟨b1, b2, b3⟩ := a3 j hj
  exact ⟨b1, b2, fun h => by rw [gL, if_neg (fun z => h2 z.1.symm)]; exact b3 h⟩
/-- what waits is no matter to the class -/
theorem zIW_reads : zIW (zReads a) = zIW a := by
  unfold zIW
  rw [show a_w (zReads a) = (0, 0, 0, 0) from w_reads, if_neg (by decide)]
  unfold zReads
  by_cases q : (a_w a).1 = 5 ∨ (a_w a).1 = 15 ∨ (a_w a).1 = 17
  · rw [if_pos q, if_pos q]; rfl
  · rw [if_neg q, if_neg q]; rfl
theorem PC_reads (h : PC ci O T N a σ) : PC ci O T N (zReads a) σ := by
  obtain ⟨h1, h2⟩ := h
  obtain ⟨e1, e2, e3, e4, e5, e6, e7, e8, e9⟩ := eqx_reads (a := a)
  unfold PC PR
  rw [p_reads, zIW_reads, e1, e2, e3, e4, e6, e7]
  exact ⟨h1, h2⟩
theorem zIW_0 (h : wN a = 0) : zIW a = a_i a := by
  unfold zIW
  by_cases q : (a_w a).1 = 5 ∨ (a_w a).1 = 15 ∨ (a_w a).1 = 17
  · unfold wN at h; rw [if_pos q] at h; cases h
  · rw [if_neg q]
theorem zIW_L : (zIW a).length = nW a := by
  unfold zIW nW wN
  split
  · rw [List.length_append]; rfl
  · rfl
/-! how a call of the class comes to what is read -/
def SCV (ci : Nat) (O : Nat → Nat → Nat → Int32) (T : zT) (N : Nat) (r : sm_R) (z : zR) : Prop := match z with
  | .inl e => FV e.1 (T.2.2.2 e.2) ci O r
  | .inr x => ∃ σ', r = rV σ' ∧ PC ci O T N x.2 σ'
def SCI (ci : Nat) (O : Nat → Nat → Nat → Int32) (T : zT) (N : Nat) (r : sm_R) (z : zR) : Prop := match z with
  | .inl e => FI e.1 (T.2.2.2 e.2) ci O r
  | .inr x => ∃ σ', r = rI x.1 σ' ∧ PC ci O T N x.2 σ'
/-- shapes, as the class has them -/
def csh (n : Nat) : Int32 := match n with | 0 => 4 | 1 => 0 | 2 => 2 | 3 => 3 | _ => 1
def SCU (ci : Nat) (O : Nat → Nat → Nat → Int32) (T : zT) (N : Nat) (r : sm_R) (z : zR) : Prop := match z with
  | .inl e => FI e.1 (T.2.2.2 e.2) ci O r
  | .inr x => ∃ σ', r = rI x.1 σ' ∧ PC ci O T N x.2 σ' ∧ σ'.1 15 0 10 = csh (a_s x.2)
theorem cbV {G : sm_R → zR → Prop} {r : sm_R} {z : zR} {k : sm_S → sm_R} {k' : Int32 → zA → zR} (h : SCV ci O T N r z) (hok : ∀ y a σ, z = .inr (y, a) → PC ci O T N a σ → G (k σ) (k' y a)) (hf : ∀ e σ, FS e.1 (T.2.2.2 e.2) ci O σ → G (k σ) (.inl e)) : G (sm_bV r sm_tw k) (pb z k') := by
  rcases z with e | ⟨y, a⟩
  · obtain ⟨σ', rfl, F⟩ := h; exact hf e σ' F
  · obtain ⟨σ', rfl, P⟩ := h; exact hok y a σ' rfl P
theorem cbI {G : sm_R → zR → Prop} {r : sm_R} {z : zR} {k : Int32 → sm_S → sm_R} {k' : Int32 → zA → zR} (h : SCI ci O T N r z) (hok : ∀ y a σ, z = .inr (y, a) → PC ci O T N a σ → G (k y σ) (k' y a)) (hf : ∀ e y σ, FS e.1 (T.2.2.2 e.2) ci O σ → G (k y σ) (.inl e)) : G (sm_bI r sm_tw k) (pb z k') := by
  rcases z with e | ⟨y, a⟩
  · obtain ⟨y, σ', rfl, F⟩ := h; exact hf e y σ' F
  · obtain ⟨σ', rfl, P⟩ := h; exact hok y a σ' rfl P
theorem cbU {G : sm_R → zR → Prop} {r : sm_R} {z : zR} {k : Int32 → sm_S → sm_R} {k' : Int32 → zA → zR} (h : SCU ci O T N r z) (hok : ∀ y a σ, z = .inr (y, a) → PC ci O T N a σ → σ.1 15 0 10 = csh (a_s a) → G (k y σ) (k' y a)) (hf : ∀ e y σ, FS e.1 (T.2.2.2 e.2) ci O σ → G (k y σ) (.inl e)) : G (sm_bI r sm_tw k) (pb z k') := by
  rcases z with e | ⟨y, a⟩
  · obtain ⟨y, σ', rfl, F⟩ := h; exact hf e y σ' F
  · obtain ⟨σ', rfl, P, S⟩ := h; exact hok y a σ' rfl P S
theorem pb_pb {r : zR} {k k2 : Int32 → zA → zR} : pb (pb r k) k2 = pb r (fun y a => pb (k y a) k2) := by
  rcases r with e | ⟨y, a⟩ <;> rfl
theorem pb_id {r : zR} : pb r (fun y a => .inr (y, a)) = r := by
  rcases r with e | ⟨y, a⟩ <;> rfl
/-- a fault -/
theorem c_refuse {f pl : Int32} (h : PC ci O T N a σ) (hf : f ≠ 0) : FV f pl ci O (sm_callM X true (d + 1) 83 [vP (15, 0), vI f, vI pl] σ) := by
  obtain ⟨⟨-, -, -, -, -, -, -, -, -, h0⟩, -, h5, -, hc, -⟩ := h
  rw [f_X5_refuse, q_X5_refuse_0, if_pos h0.1]
  refine ⟨_, rfl, ?_, hf, ?_, ?_, ?_, ?_, F5_K (F5_K (F5_K (F5_K h5.2.2.1 F5_15) F5_15) F5_15) F5_15⟩
  · exact CI_o (CI_o (CI_o (CI_o hc (by omega) (by omega) (by omega) (by omega) (by omega)) (by omega) (by omega) (by omega) (by omega) (by omega)) (by omega) (by omega) (by omega) (by omega) (by omega)) (by omega) (by omega) (by omega) (by omega) (by omega)
  · rw [gI, if_neg (by omega), gI, if_neg (by omega), gI, if_neg (by omega), gI, if_pos ⟨rfl, rfl, rfl⟩]
  · rw [gI, if_neg (by omega), gI, if_neg (by omega), gI, if_pos ⟨rfl, rfl, rfl⟩]
  · rw [gI, if_neg (by omega), gI, if_pos ⟨rfl, rfl, rfl⟩]
  · rw [gI, if_pos ⟨rfl, rfl, rfl⟩]
/-- one token on -/
theorem c_pass (hT : TK T N) (h : PC ci O T N a σ) (hk : T.1 (a_p a) ≠ 6) (hk7 : T.1 (a_p a) ≠ 7) : SCV ci O T N (sm_callM X true (d + 1) 84 [vP (15, 0)] σ) (zN a) := by
  obtain ⟨hp, hr⟩ := h
  obtain ⟨a1, a2, a3, a4, a5, a6, a7, a8, a9, a10⟩ := hp
  rw [f_X5_pass, q_X5_pass_0, if_pos a10.1, a5, i_s]
  unfold zN
  by_cases q : a_p a = 800
  · rw [if_pos q, if_pos (by rw [q, show (800 : Int32) = Int32.ofNat 800 from rfl, i_lt (by omega) (by omega)]; omega), q_X5_pass_34]
    have e1 : (sI (sI σ 15 0 11 5) 15 0 12 ((sI σ 15 0 11 5).1 15 0 7)).1 15 0 11 = 5 := by rw [gI, if_neg (by omega), gI, if_pos ⟨rfl, rfl, rfl⟩]
    rw [e1, if_neg (by decide), q_X5_pass_61, if_pos rfl, q_X5_pass_80, rq_t, if_pos rfl, q_X5_pass_116, rq_t, if_pos rfl]
    refine ⟨_, rfl, ?_, by decide, ?_, ?_, ?_, ?_, F5_K (F5_K (F5_K (F5_K hr.2.1.2.2.1 F5_15) F5_15) F5_15) F5_15⟩
    · exact CI_o (CI_o (CI_o (CI_o hr.2.2.2.1 (by omega) (by omega) (by omega) (by omega) (by omega)) (by omega) (by omega) (by omega) (by omega) (by omega)) (by omega) (by omega) (by omega) (by omega) (by omega)) (by omega) (by omega) (by omega) (by omega) (by omega)
    · rw [gI, if_neg (by omega), gI, if_neg (by omega)]; exact e1
    · rw [gI, if_neg (by omega), gI, if_neg (by omega), gI, if_pos ⟨rfl, rfl, rfl⟩, gI, if_neg (by omega), a7, q]
    · rw [gI, if_neg (by omega), gI, if_pos ⟨rfl, rfl, rfl⟩]
    · rw [gI, if_pos ⟨rfl, rfl, rfl⟩]
  · obtain ⟨t1, t2, t3, -⟩ := hT
    have hN : a_p a < N := by
      rcases Nat.lt_or_ge (a_p a) N with z | z
      · exact z
      · exfalso
        have : a_p a = N := by omega
        rw [this] at hk hk7 q
        rcases t3 with w | w | w
        · exact hk w
        · exact hk7 w
        · omega
    rw [if_neg q, if_neg (by rw [show (800 : Int32) = Int32.ofNat 800 from rfl, i_lt (by omega) (by omega)]; omega), q_X5_pass_34, if_pos a10.1, if_neg (i_nn (by omega)), a4, if_pos (by rw [i_lt (by omega) (by omega)]; omega), q_X5_pass_61, if_neg (by decide), ix_nat (by omega) (by decide), (a3 _ (by omega)).1, q_X5_pass_80, rq_t, if_neg (by decide)]
    have e0 : (sI σ 15 0 6 (T.1 (a_p a + 1))).1 17 0 7 = Int32.ofNat (N + 1) := by rw [gI, if_neg (by omega)]; exact a4
    rw [e0, i_s]
    have key : ∀ v : Int32, v = (if a_p a + 1 < N then T.1 (a_p a + 1 + 1) else 0) → SCV ci O T N (sm_go (sm_ZZ X) sm_PP true (sm_callM X true d) 84 116 [vP (15, 0), vI (Int32.ofNat (a_p a + 1)), vI 1] [vI v, vP (15, 0)] (sI σ 15 0 6 (T.1 (a_p a + 1)))) (.inr (0, aP a (a_p a + 1))) := by
      intro v hv
      rw [q_X5_pass_116, rq_t, if_neg (by decide), ix_nat (by omega) (by decide), ix_nat (by omega) (by decide)]
      refine ⟨_, rfl, ⟨by show a_p a + 1 ≤ 800; omega, hN, ?_, ?_, ?_, ?_, ?_, ?_, ?_, ?_⟩, ?_⟩
      · intro j hj
        obtain ⟨b1, b2, b3⟩ := a3 j hj
        refine ⟨?_, ?_, fun h7 => ?_⟩
        · rw [gLI, gI, if_neg (by omega), gI, if_neg (by omega), gI, if_neg (by omega), gI, if_neg (by omega)]; exact b1
        · rw [gLI, gI, if_neg (by omega), gI, if_neg (by omega), gI, if_neg (by omega), gI, if_neg (by omega)]; exact b2
        · rw [gL, if_neg (by omega)]; exact b3 h7
      · rw [gLI, gI, if_neg (by omega), gI, if_neg (by omega), gI, if_neg (by omega), gI, if_neg (by omega)]; exact a4
      · rw [gLI, gI, if_neg (by omega), gI, if_pos ⟨rfl, rfl, rfl⟩]; rfl
      · rw [gLI, gI, if_neg (by omega), gI, if_neg (by omega), gI, if_neg (by omega), gI, if_pos ⟨rfl, rfl, rfl⟩]; rfl
      · rw [gLI, gI, if_pos ⟨rfl, rfl, rfl⟩, gI, if_neg (by omega), gI, if_neg (by omega), gI, if_neg (by omega)]; exact (a3 _ (by omega)).2.1
      · intro h7
        rw [gL, if_pos ⟨rfl, rfl, rfl⟩]; exact (a3 _ (by omega)).2.2 h7
      · rw [gLI, gI, if_neg (by omega), gI, if_neg (by omega), gI, if_pos ⟨rfl, rfl, rfl⟩]; exact hv
      · exact ⟨by rw [gLI, gI, if_neg (by omega), gI, if_neg (by omega), gI, if_neg (by omega), gI, if_neg (by omega)]; exact a10.1, by rw [gLI, gI, if_neg (by omega), gI, if_neg (by omega), gI, if_neg (by omega), gI, if_neg (by omega)]; exact a10.2⟩
      · exact PR_L (PR_15 (PR_15 (PR_15 (PR_15 hr (by omega)) (by omega)) (by omega)) (by omega))
    by_cases q2 : a_p a + 1 < N
    · rw [if_pos (by rw [i_lt (by omega) (by omega)]; omega), ix_nat (by omega) (by decide)]
      exact key _ (by rw [if_pos q2, gI, if_neg (by omega)]; exact (a3 _ (by omega)).1)
    · rw [if_neg (by rw [i_lt (by omega) (by omega)]; omega)]
      exact key _ (by rw [if_neg q2])
theorem fi_of {f pl y : Int32} {k : sm_S → sm_R} {r : sm_R} (h : FV f pl ci O r) (hk : ∀ σ, FS f pl ci O σ → FI f pl ci O (k σ)) : FI f pl ci O (sm_bV r sm_tw k) := bindV h hk
/-- a token that must be there -/
theorem c_expect {x : Int32} (hT : TK T N) (h : PC ci O T N a σ) (hx : x ≠ 6) (hx7 : x ≠ 7) : SCV ci O T N (sm_callM X true (d + 2) 86 [vP (15, 0), vI x] σ) (zMust T x a) := by
  have a6 := h.1.2.2.2.2.2.1
  have a7 := h.1.2.2.2.2.2.2.1
  rw [f_X5_expect, q_X5_expect_0, a6]
  unfold zMust
  by_cases q : T.1 (a_p a) = x
  · rw [if_pos q, if_pos q]
    have hp := c_pass (X := X) (d := d) hT h (by rw [q]; exact hx) (by rw [q]; exact hx7)
    revert hp
    cases zN a with
    | inl e => rintro ⟨σ', e1, F⟩; rw [e1]; exact ⟨σ', rfl, F⟩
    | inr x => rintro ⟨σ', e1, P⟩; rw [e1]; exact ⟨σ', rfl, P⟩
  · rw [if_neg q, if_neg q, a7]
    exact bindV (c_refuse h (by decide)) (fun σ' F => bindV (fs_84 F) (fun σ' F => fv_ret F))
/-- a token at which types are judged -/
def zFitT (T : zT) (x : Int32) (c : Bool) (a : zA) : zR := if T.1 (a_p a) = x then (if c = true then zN a else .inl (4, a_p a)) else .inl (1, a_p a)
theorem c_expectFit {x y : Int32} {c : Bool} (hT : TK T N) (h : PC ci O T N a σ) (hx : x ≠ 6) (hx7 : x ≠ 7) (hy : y = 0 ↔ c = false) : SCV ci O T N (sm_callM X true (d + 2) 85 [vP (15, 0), vI x, vI y] σ) (zFitT T x c a) := by
  have a6 := h.1.2.2.2.2.2.1
  have a7 := h.1.2.2.2.2.2.2.1
  rw [f_X5_expectFit, q_X5_expectFit_0, a6]
  unfold zFitT
  by_cases q : T.1 (a_p a) = x
  · rw [if_pos q, if_pos q]
    cases c with
    | false =>
      rw [if_pos (hy.mpr rfl), a7]
      exact bindV (c_refuse h (by decide)) (fun σ' F => bindV (fs_84 F) (fun σ' F => fv_ret F))
    | true =>
      rw [if_neg (fun z => by have := hy.mp z; cases this)]
      have hp := c_pass (X := X) (d := d) hT h (by rw [q]; exact hx) (by rw [q]; exact hx7)
      revert hp
      show SCV ci O T N _ (zN a) → SCV ci O T N _ (zN a)
      cases zN a with
      | inl e => rintro ⟨σ', e1, F⟩; rw [e1]; exact ⟨σ', rfl, F⟩
      | inr x => rintro ⟨σ', e1, P⟩; rw [e1]; exact ⟨σ', rfl, P⟩
  · rw [if_neg q, if_neg q, a7]
    exact bindV (c_refuse h (by decide)) (fun σ' F => bindV (fs_84 F) (fun σ' F => fv_ret F))
/-- a ( or [; how many are begun is no matter to the class -/
theorem PC_o {n : Nat} (h : PC ci O T N a σ) : PC ci O T N (aO a n) σ := h
theorem c_expectOpening {x : Int32} {n : Nat} (hT : TK T N) (h : PC ci O T N a σ) (hx : x ≠ 6) (hx7 : x ≠ 7) (hn : a_o a = n) (hn10 : n ≤ 10) : SCV ci O T N (sm_callM X true (d + 2) 87 [vP (15, 0), vI x, vI (Int32.ofNat n)] σ) (zOpens T x a) := by
  have a6 := h.1.2.2.2.2.2.1
  have a7 := h.1.2.2.2.2.2.2.1
  rw [f_X5_expectOpening, q_X5_expectOpening_0, a6]
  unfold zOpens
  by_cases q : T.1 (a_p a) = x
  · rw [if_pos q]
    by_cases q2 : n < 10
    · rw [if_pos (by rw [show (10 : Int32) = Int32.ofNat 10 from rfl, i_lt (by omega) (by omega)]; exact q2), if_pos ⟨q, by rw [hn]; exact q2⟩]
      have hp := c_pass (X := X) (d := d) (a := aO a (a_o a + 1)) hT h (by show T.1 (a_p a) ≠ 6; rw [q]; exact hx) (by show T.1 (a_p a) ≠ 7; rw [q]; exact hx7)
      revert hp
      cases zN (aO a (a_o a + 1)) with
      | inl e => rintro ⟨σ', e1, F⟩; rw [e1]; exact ⟨σ', rfl, F⟩
      | inr x => rintro ⟨σ', e1, P⟩; rw [e1]; exact ⟨σ', rfl, P⟩
    · rw [if_neg (by rw [show (10 : Int32) = Int32.ofNat 10 from rfl, i_lt (by omega) (by omega)]; exact q2), if_neg (fun z => q2 (by rw [← hn]; exact z.2)), a7]
      exact bindV (c_refuse h (by decide)) (fun σ' F => bindV (fs_84 F) (fun σ' F => fv_ret F))
  · rw [if_neg q, if_neg (fun z => q z.1), a7]
    exact bindV (c_refuse h (by decide)) (fun σ' F => bindV (fs_84 F) (fun σ' F => fv_ret F))
end
