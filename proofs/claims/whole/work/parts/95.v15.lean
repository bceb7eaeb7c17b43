section
/-! CALLS, FIRSTS, UNITS, PRODUCTS, SUMS -/
variable {X : Nat × (Nat → Int32)} {d : Nat} {s σ : sm_S} {ci N : Nat} {O : Nat → Nat → Nat → Int32} {T : zT} {a b : zA} {t : Int32} {sub : zA → zR}
theorem cFit_38 (t : Int32) : ¬ cFit t 38 = 1 := by
  unfold cFit
  by_cases h : t = 37
  · rw [if_pos h]; decide
  · rw [if_neg h]
    by_cases h2 : t = 36
    · rw [if_pos h2]; decide
    · rw [if_neg h2]
      unfold cBel
      rw [if_neg (show ¬ (38 : Int32) < 0 by decide), if_neg (show ¬ (38 : Int32) < 36 by decide)]
      split
      · decide
      · split <;> decide
/-- behind an argument -/
def zAL (T : zT) (sub : zA → zR) (ps : List Int32) (f i : Nat) (a1 : zA) : zR := if T.1 (a_p a1) = 44 then pb (zN a1) (fun _ a2 => zArgs T sub ps f (i + 1) a2) else if T.1 (a_p a1) = 41 then .inr (Int32.ofNat (i + 1), a1) else .inl (1, a_p a1)
theorem zArgs_1 {ps : List Int32} {f i : Nat} : zArgs T sub ps (f + 1) i a = pb (zArg1 T sub ps i a) (fun _ a1 => zAL T sub ps f i a1) := by
  rw [zArgs]
  unfold zArg1
  rw [pb_pb]
  congr 1
  funext t a1
  unfold zAL
  have hi : ¬ i < ps.length → ¬ cFit t (ps.getD i 38) = 1 := fun z => by
    have : ps.getD i 38 = 38 := by simp [List.getD, z]
    rw [this]; exact cFit_38 t
  by_cases k1 : T.1 (a_p a1) = 44
  · rw [if_pos (Or.inl k1), if_pos (Or.inl k1), if_pos k1]
    by_cases k3 : cFit t (ps.getD i 38) = 1
    · rw [if_pos ⟨Decidable.by_contra (fun z => hi z k3), k3⟩, if_pos k3, pb_r, if_pos k1]
    · rw [if_neg (fun z => k3 z.2), if_neg k3]; rfl
  · by_cases k2 : T.1 (a_p a1) = 41
    · rw [if_pos (Or.inr k2), if_pos (Or.inr k2), if_neg k1]
      by_cases k3 : cFit t (ps.getD i 38) = 1
      · rw [if_pos ⟨Decidable.by_contra (fun z => hi z k3), k3⟩, if_pos k3, pb_r, if_neg k1, if_pos k2]
      · rw [if_neg (fun z => k3 z.2), if_neg k3]; rfl
    · rw [if_neg (fun z => z.elim k1 k2), if_neg (fun z => z.elim k1 k2), pb_r, if_neg k1, if_neg k2]
theorem zArg1_inr {ps : List Int32} {i : Nat} {y : Int32} (hD : SubD sub) (hp : a_p a ≤ 800) (hb : zL a ≤ a_p a) (hty : tyA a) (h : zArg1 T sub ps i a = .inr (y, b)) : (wN b = 0 ∧ zL b ≤ a_p b ∧ tyA b ∧ zL b < 900 ∧ a_o b = a_o a ∧ a_p a < a_p b ∧ a_q b = a_q a) ∧ (T.1 (a_p b) = 44 ∨ T.1 (a_p b) = 41 → i < ps.length) := by
  unfold zArg1 at h
  rw [pb_inr] at h
  obtain ⟨t, a1, h1, h2⟩ := h
  have hs := sub_b hD hp hb hty h1
  by_cases k : T.1 (a_p a1) = 44 ∨ T.1 (a_p a1) = 41
  · rw [if_pos k, it_l] at h2
    obtain ⟨k3, h2⟩ := h2
    cases h2
    refine ⟨hs, fun _ => Decidable.by_contra (fun z => ?_)⟩
    have : ps.getD i 38 = 38 := by simp [List.getD, z]
    rw [this] at k3
    exact cFit_38 t k3
  · rw [if_neg k] at h2
    cases h2
    exact ⟨hs, fun z => absurd z k⟩
/-- what comes behind the arguments of a call -/
def zCK (T : zT) (ps : List zP) (q pl : Int32) (n : Int32) (a3 : zA) : zR :=
  if n = Int32.ofNat (qPar ps q).length then
    pb (zN (aO a3 (a_o a3 - 1))) (fun _ a4 => .inr (qGiv ps q, aS (if q < 12 then zE a4 27 (q + 5) 0 (qGiv ps q) pl else zE a4 (q + 16).toNatClampNeg 0 0 (qGiv ps q) pl) 4))
  else .inl (4, a_p a3)
theorem cOp_n {n : Nat} (h : ¬ n = 35) : cOp n = n := by
  unfold cOp
  rw [show (n == 35) = false by simpa using h]; rfl
theorem call_d : ∀ i, i < 5 → (Int32.ofNat i < 5 ∧ 28 + Int32.ofNat i = Int32.ofNat (28 + i) ∧ (Int32.ofNat (12 + i) + 16).toNatClampNeg = 28 + i ∧ ¬ Int32.ofNat (12 + i) < 12 ∧ vC (28 + i) = true ∧ ¬ (28 + i = 0 ∨ 28 + i = 26)) := by decide
theorem c_call107 {q x pl : Int32} {n : Nat} {d1 d5 : sm_V} (hT : TK T N) (h : PC ci O T N a σ) (hw : wN a = 0) (hl : zL a < 900) (hx : cIx (a_q a) q x) (hn : T.1 (a_p a) = 41 → n ≤ (qPar (a_q a) q).length) (hn2 : n < 2 ^ 31) : SCU ci O T N (sm_go (sm_ZZ X) sm_PP true (sm_callM X true (d + 11)) 114 107 [vP (15, 0), d1, vI pl, vI x, vI (Int32.ofNat n), d5] [] σ) (if T.1 (a_p a) = 41 then zCK T (a_q a) q pl (Int32.ofNat n) a else .inl (1, a_p a)) := by
  have h4 := qPar_4 h hx
  rw [q_X5_readCall_107, if_cd h.2.2.2.2.1, PC_cd h, c_parCount (d := d + 9) h hx, bI_r]
  have key : ∀ (y : Int32) (c : Bool), (y = 0 ↔ c = false) → (c = true ↔ ¬ n < (qPar (a_q a) q).length) → SCU ci O T N (sm_go (sm_ZZ X) sm_PP true (sm_callM X true (d + 11)) 114 128 [vP (15, 0), vU, vI pl, vI x, vI (Int32.ofNat n), vU] [vI y, vI 41, vP (15, 0)] σ) (if T.1 (a_p a) = 41 then zCK T (a_q a) q pl (Int32.ofNat n) a else .inl (1, a_p a)) := by
    intro y c hy hc
    rw [q_X5_readCall_128, if_pos rfl]
    have e0 : (if T.1 (a_p a) = 41 then zCK T (a_q a) q pl (Int32.ofNat n) a else .inl (1, a_p a) : zR) = pb (zFitT T 41 c (aO a (a_o a - 1))) (fun _ a4 => .inr (qGiv (a_q a) q, aS (if q < 12 then zE a4 27 (q + 5) 0 (qGiv (a_q a) q) pl else zE a4 (q + 16).toNatClampNeg 0 0 (qGiv (a_q a) q) pl) 4)) := by
      unfold zFitT zCK
      show _ = pb (if T.1 (a_p a) = 41 then _ else _) _
      by_cases k : T.1 (a_p a) = 41
      · have hn := hn k
        rw [if_pos k, if_pos k]
        by_cases k2 : n < (qPar (a_q a) q).length
        · rw [if_neg (by rw [i_eq (by omega) (by omega)]; omega), if_neg (fun z => (hc.mp z) k2)]; rfl
        · rw [if_pos (by rw [i_eq (by omega) (by omega)]; omega), if_pos (hc.mpr k2)]
      · rw [if_neg k, if_neg k]; rfl
    rw [e0]
    refine cbVU (c_expectFit (d := d + 9) (a := aO a (a_o a - 1)) hT h (by decide) (by decide) hy) (fun _ a4 σ4 e4 hp4 => ?_) (fun e σ F => ft_readCall_128_s2 F)
    unfold zFitT at e4; rw [it_l, it_l] at e4
    obtain ⟨-, -, e4⟩ := e4
    obtain ⟨-, e4⟩ := zN_inr.mp e4
    have E4 : a4 = aP (aO a (a_o a - 1)) (a_p a + 1) := congrArg Prod.snd e4
    have w4 : wN a4 = 0 := by rw [E4]; exact hw
    have l4 : zL a4 < 900 := by rw [E4]; exact hl
    have q4 : a_q a4 = a_q a := by rw [E4]; rfl
    have h12 := h.2.2.1.2.1
    rcases hx with ⟨i, hi, rfl, rfl⟩ | ⟨i, hi, rfl, rfl⟩
    · have hx' : cIx (a_q a) (Int32.ofNat i) (Int32.ofNat (5 + i)) := Or.inl ⟨i, hi, rfl, rfl⟩
      have e5 : Int32.ofNat i + 5 = Int32.ofNat (5 + i) := by rw [show (5 : Int32) = Int32.ofNat 5 from rfl, i_add, Nat.add_comm]
      have hn5 : ¬ Int32.ofNat (5 + i) < 5 := by rw [show (5 : Int32) = Int32.ofNat 5 from rfl, i_lt (by omega) (by omega)]; omega
      have hn12 : Int32.ofNat i < 12 := by rw [show (12 : Int32) = Int32.ofNat 12 from rfl, i_lt (by omega) (by omega)]; omega
      rw [if_neg hn5, if_pos hn12, e5]
      refine emU (op := 27) (arg := Int32.ofNat (5 + i)) (ty := qGiv (a_q a) (Int32.ofNat i)) (tgt := 0) hp4 w4 l4 rfl (by decide) (Nat.zero_le _) rfl (cArg_n (by decide)) (fun σ6 h6 => ?_)
      have h6' := PC_sh (x := 1) h6
      rw [if_cd h6'.2.2.2.2.1, PC_cd h6', c_given (d := d + 9) (a := zE a4 27 (Int32.ofNat (5 + i)) 0 (qGiv (a_q a) (Int32.ofNat i)) pl) (q := Int32.ofNat i) h6' (by show cIx (a_q a4) _ _; rw [q4]; exact hx'), bI_r]
      refine ⟨_, ?_, h6', by rw [gI, if_pos ⟨rfl, rfl, rfl⟩]; rfl⟩
      show rI (qGiv (a_q a4) (Int32.ofNat i)) _ = _
      rw [q4]
    · obtain ⟨g1, g2, g3, g4, g5, g6⟩ := call_d i hi
      have hx' : cIx (a_q a) (Int32.ofNat (12 + i)) (Int32.ofNat i) := Or.inr ⟨i, hi, rfl, rfl⟩
      rw [if_pos g1, if_neg g4, g2, g3]
      refine emU (op := 28 + i) (arg := 0) (ty := qGiv (a_q a) (Int32.ofNat (12 + i))) (tgt := 0) hp4 w4 l4 g5 (by omega) (Nat.zero_le _) (show Int32.ofNat (28 + i) = Int32.ofNat (cOp (28 + i)) by rw [cOp_n (by omega)]) (cArg_n g6) (fun σ6 h6 => ?_)
      have h6' := PC_sh (x := 1) h6
      rw [if_cd h6'.2.2.2.2.1, PC_cd h6', c_given (d := d + 9) (a := zE a4 (28 + i) 0 0 (qGiv (a_q a) (Int32.ofNat (12 + i))) pl) (q := Int32.ofNat (12 + i)) h6' (by show cIx (a_q a4) _ _; rw [q4]; exact hx'), bI_r]
      refine ⟨_, ?_, h6', by rw [gI, if_pos ⟨rfl, rfl, rfl⟩]; rfl⟩
      show rI (qGiv (a_q a4) (Int32.ofNat (12 + i))) _ = _
      rw [q4]
  by_cases k2 : n < (qPar (a_q a) q).length
  · rw [if_pos ((i_lt (by omega) (by omega)).mpr k2)]
    exact key 0 false ⟨fun _ => rfl, fun _ => rfl⟩ ⟨fun z => (by cases z), fun z => absurd k2 z⟩
  · rw [if_neg (fun z => k2 ((i_lt (by omega) (by omega)).mp z))]
    exact key 1 true ⟨fun z => absurd z (by decide), fun z => (by cases z)⟩ ⟨fun _ => k2, fun _ => rfl⟩
theorem c_call67 {q x pl : Int32} {o : Nat} (hT : TK T N) (hD : SubD sub) (hs : HS X d ci O T N sub (o + 1)) (ps : List zP) (hx : cIx ps q x) : ∀ (f i j : Nat) (a : zA) (σ : sm_S), PC ci O T N a σ → a_q a = ps → wN a = 0 → zL a ≤ a_p a → tyA a → a_o a = o + 1 → (T.1 (a_p a) = 44 ∨ T.1 (a_p a) = 41 → i < (qPar ps q).length) → j ≤ a_p a → i ≤ a_p a → 801 ≤ f + a_p a →
    SCU ci O T N (sm_go (sm_ZZ X) sm_PP true (sm_callM X true (d + 11)) 114 67 [vP (15, 0), vI (Int32.ofNat o), vI pl, vI x, vI (Int32.ofNat (i + 1)), vI (Int32.ofNat j)] [] σ) (pb (zAL T sub (qPar ps q) f i a) (zCK T ps q pl))
  | f, i, j, a, σ, h, hq, hw, hb, hty, ho, hil, hj, hip, hf => by
    have hp := PC_len h
    rw [q_X5_readCall_67, if_neg (by rw [show (800 : Int32) = Int32.ofNat 800 from rfl, i_lt (by omega) (by omega)]; omega), PC_k h]
    unfold zAL
    by_cases k1 : T.1 (a_p a) = 44
    · rw [if_pos k1, if_pos k1, pb_pb]
      refine cbVU (c_pass (d := d + 10) hT h (by rw [k1]; decide) (by rw [k1]; decide)) (fun _ a1 σ1 e1 h1 => ?_) (fun e σ F => ft_readCall_67_s2 F)
      obtain ⟨n1, e1⟩ := zN_inr.mp e1
      have E1 : a1 = aP a (a_p a + 1) := congrArg Prod.snd e1
      have p1 : a_p a1 = a_p a + 1 := by rw [E1]; rfl
      have w1 : wN a1 = 0 := by rw [E1]; exact hw
      have b1 : zL a1 ≤ a_p a1 := by rw [E1]; show zL a ≤ a_p a + 1; omega
      have t1 : tyA a1 := by rw [E1]; exact hty
      have o1 : a_o a1 = o + 1 := by rw [E1]; exact ho
      have q1 : a_q a1 = ps := by rw [E1]; exact hq
      obtain ⟨f, rfl⟩ : ∃ g, f = g + 1 := ⟨f - 1, by have := PC_len h1; omega⟩
      rw [zArgs_1, pb_pb, i_s]
      have hx1 : cIx (a_q a1) q x := by rw [q1]; exact hx
      have hA := c_readArg (X := X) (d := d) (i := i + 1) hT hD h1 w1 o1 hs b1 t1 hx1 (by have := PC_len h1; omega)
      rw [q1] at hA
      refine cbVU hA (fun _ a2 σ2 e2 h2 => ?_) (fun e σ F => ft_readCall_67_s4 F)
      obtain ⟨⟨w2, b2, t2, l2, o2, lt2, q2⟩, il2⟩ := zArg1_inr hD (PC_len h1) b1 t1 e2
      rw [i_s, i_s]
      exact c_call67 hT hD hs ps hx f (i + 1) (j + 1) a2 σ2 h2 (q2.trans q1) w2 b2 t2 (o2.trans o1) il2 (by omega) (by omega) (by omega)
    · rw [if_neg k1, if_neg k1]
      have hxa : cIx (a_q a) q x := by rw [hq]; exact hx
      have h107 := c_call107 (X := X) (d := d) (n := i + 1) (pl := pl) (d1 := vI (Int32.ofNat o)) (d5 := vI (Int32.ofNat j)) hT h hw (len_p h hb) hxa (fun k => by rw [hq]; exact hil (Or.inr k)) (by omega)
      rw [hq] at h107
      by_cases k2 : T.1 (a_p a) = 41
      · rw [if_pos k2] at h107 ⊢
        exact h107
      · rw [if_neg k2] at h107 ⊢
        exact h107
  termination_by f => f
/-- a call -/
theorem c_readCall (hT : TK T N) (hD : SubD sub) (h : PC ci O T N a σ) (hk : T.1 (a_p a) = 3) (ho : a_o a ≤ 10) (hs : a_o a < 10 → HS X d ci O T N sub (a_o a + 1)) (hw : wN a = 0) (hb : zL a ≤ a_p a) (hty : tyA a) : SCU ci O T N (sm_callM X true (d + 12) 114 [vP (15, 0), vI (Int32.ofNat (a_o a))] σ) (zCall T sub a) := by
  have hn := hT.2.2.2.1 _ hk
  have h12 := h.2.2.1.2.1
  rw [f_X5_readCall, q_X5_readCall_0, PC_nm h hk, c_findProc (d := d + 5) hn h, bI_r]
  unfold zCall
  rcases pFind_c (n := T.2.1 (a_p a)) h12 with ⟨f1, f2⟩ | ⟨f1, f2, f3⟩
  · rw [f2, if_pos rfl, if_pos f1, PC_pl h]
    exact SCU_f (bindV (c_refuse h (by decide)) (fun σ F => fg_readCall_28 F))
  · rw [if_neg f2, if_neg f1, q_X5_readCall_28, PC_pl h]
    refine cbVU (c_pass (d := d + 10) hT h (by rw [hk]; decide) (by rw [hk]; decide)) (fun _ a1 σ1 e1 h1 => ?_) (fun e σ F => ft_readCall_28_s2 F)
    obtain ⟨n1, e1⟩ := zN_inr.mp e1
    have E1 : a1 = aP a (a_p a + 1) := congrArg Prod.snd e1
    have o1 : a_o a1 = a_o a := by rw [E1]; rfl
    refine cbVU (c_expectOpening (d := d + 9) hT h1 (by decide) (by decide) o1 ho) (fun _ a2 σ2 e2 h2 => ?_) (fun e σ F => ft_readCall_28_s4 F)
    obtain ⟨c2, n2, e2⟩ := zOpens_inr.mp e2
    have E2 : a2 = aP (aO a1 (a_o a1 + 1)) (a_p a1 + 1) := congrArg Prod.snd e2
    have w2 : wN a2 = 0 := by rw [E2, E1]; exact hw
    have p2 : a_p a2 = a_p a + 2 := by rw [E2, E1]; rfl
    have b2 : zL a2 ≤ a_p a2 := by rw [p2, E2, E1]; show zL a ≤ a_p a + 2; omega
    have t2 : tyA a2 := by rw [E2, E1]; exact hty
    have o2 : a_o a2 = a_o a + 1 := by rw [E2, E1]; rfl
    have q2 : a_q a2 = a_q a := by rw [E2, E1]; rfl
    have hsub := hs (by rw [← o1]; exact c2.2)
    rw [PC_k h2]
    have hKe : (fun (n : Int32) (a3 : zA) => (if n = Int32.ofNat (qPar (a_q a) (pFind (T.2.1 (a_p a)) (a_q a))).length then
        pb (zN (aO a3 (a_o a3 - 1))) (fun _ a4 => .inr (qGiv (a_q a) (pFind (T.2.1 (a_p a)) (a_q a)),
          aS (if pFind (T.2.1 (a_p a)) (a_q a) < 12
            then zE a4 27 (pFind (T.2.1 (a_p a)) (a_q a) + 5) 0 (qGiv (a_q a) (pFind (T.2.1 (a_p a)) (a_q a))) (T.2.2.2 (a_p a))
            else zE a4 (pFind (T.2.1 (a_p a)) (a_q a) + 16).toNatClampNeg 0 0 (qGiv (a_q a) (pFind (T.2.1 (a_p a)) (a_q a))) (T.2.2.2 (a_p a))) 4))
      else .inl (4, a_p a3) : zR)) = zCK T (a_q a) (pFind (T.2.1 (a_p a)) (a_q a)) (T.2.2.2 (a_p a)) := rfl
    rw [hKe]
    have hx2 : cIx (a_q a2) (pFind (T.2.1 (a_p a)) (a_q a)) (cFnd (T.2.1 (a_p a)) (a_q a)) := by rw [q2]; exact f3
    by_cases k : T.1 (a_p a2) = 41
    · rw [if_pos k, if_pos k, pb_r]
      have h107 := c_call107 (X := X) (d := d) (n := 0) (pl := T.2.2.2 (a_p a)) (d1 := vI (Int32.ofNat (a_o a))) (d5 := vU) hT h2 w2 (len_p h2 b2) hx2 (fun _ => Nat.zero_le _) (by omega)
      rw [q2, if_pos k] at h107
      exact h107
    · rw [if_neg k, if_neg k, zArgs_1, pb_pb, i_s]
      have hA := c_readArg (X := X) (d := d) (i := 0) hT hD h2 w2 o2 hsub b2 t2 hx2 (by omega)
      rw [q2] at hA
      refine cbVU hA (fun _ a3 σ3 e3 h3 => ?_) (fun e σ F => ft_readCall_28_s6 F)
      obtain ⟨⟨w3, b3, t3, l3, o3, lt3, q3⟩, il3⟩ := zArg1_inr hD (PC_len h2) b2 t2 e3
      exact c_call67 (pl := T.2.2.2 (a_p a)) hT hD hsub (a_q a) f3 800 0 0 a3 σ3 h3 (q3.trans q2) w3 b3 t3 (o3.trans o2) il3 (Nat.zero_le _) (Nat.zero_le _) (by omega)
end
