section
/-! NO NAME IS OF THE TYPE OF NOTHING (statements, procs, the text); the tries begun are at most eight -/
variable {T : zT} {N : Nat} {a b c : zA} {y t : Int32} {sub blk : zA → zR}
theorem mem_mod {α : Type} {P : α → Prop} {f : α → α} (hf : ∀ q, P q → P (f q)) : ∀ (l : List α) (k : Nat), (∀ q ∈ l, P q) → ∀ q ∈ l.modify k f, P q
  | [], k, h, q, hq => by cases k <;> exact h q hq
  | x :: l, 0, h, q, hq => by
    rw [List.modify_zero_cons] at hq
    rcases List.mem_cons.mp hq with z | z
    · rw [z]; exact hf x (h x (List.mem_cons_self ..))
    · exact h q (List.mem_cons_of_mem _ z)
  | x :: l, k + 1, h, q, hq => by
    rw [List.modify_succ_cons] at hq
    rcases List.mem_cons.mp hq with z | z
    · rw [z]; exact h x (List.mem_cons_self ..)
    · exact mem_mod hf l k (fun q hq => h q (List.mem_cons_of_mem _ hq)) q z
def Q8 (a : zA) : Prop := I5 a ∧ ∀ e ∈ a_i a, (i_h e).length ≤ 8
theorem Q8_q (h1 : a_i b = a_i a) (h2 : a_k b = a_k a) (h3 : a_w b = a_w a) (i : Q8 a) : Q8 b := by
  unfold Q8 I5; rw [h1, h2, h3]; exact i
def R8 (a b : zA) : Prop := a_h b = a_h a ∧ a_r b = a_r a ∧ (Q8 a → (a_h a).length + 1 ≤ a_r a → a_r a ≤ 8 → Q8 b)
theorem R8.refl (a : zA) : R8 a a := ⟨rfl, rfl, fun h _ _ => h⟩
theorem R8.trans (h : R8 a b) (k : R8 b c) : R8 a c := ⟨k.1.trans h.1, k.2.1.trans h.2.1, fun i h1 h2 => k.2.2 (h.2.2 i h1 h2) (by rw [h.1, h.2.1]; exact h1) (by rw [h.2.1]; exact h2)⟩
theorem R8_e (p : PrE a b) (q : E5 a b) : R8 a b := ⟨p.2, q.1, fun i h1 h2 => ⟨q.2.2 i.1, fun e he => by
  obtain ⟨⟨l, e1, e2⟩, -⟩ := p
  rw [e1] at he
  rcases List.mem_append.mp he with z | z
  · exact i.2 e z
  · rw [show i_h e = a_h a from (e2 e z).2]; omega⟩⟩
theorem Q8_E {op tgt : Nat} {arg ty pl : Int32} (h : op ≠ 5) (h8 : (a_h a).length ≤ 8) (i : Q8 a) : Q8 (zE a op arg tgt ty pl) := ⟨⟨fun e he => by
    rcases List.mem_append.mp (show e ∈ a_i a ++ [_] from he) with z | z
    · exact i.1.1 e z
    · rw [List.mem_singleton.mp z]; exact fun z => absurd z h, i.1.2⟩, fun e he => by
    rcases List.mem_append.mp (show e ∈ a_i a ++ [_] from he) with z | z
    · exact i.2 e z
    · rw [List.mem_singleton.mp z]; exact h8⟩
theorem R8_E {op tgt : Nat} {arg ty pl : Int32} (h : op ≠ 5) : R8 a (zE a op arg tgt ty pl) := ⟨rfl, rfl, fun i h1 h2 => Q8_E h (by omega) i⟩
theorem Q8_mod {k : Nat} {f : zI → zI} (hf : ∀ e, (f e).1 = e.1 ∧ (f e).2.2.2.2.1 = e.2.2.2.2.1 ∧ i_h (f e) = i_h e) (i : Q8 a) : Q8 (aI a ((a_i a).modify k f)) :=
  ⟨⟨mem_mod (P := fun e : zI => e.1 = 5 → e.2.2.2.2.1 ≠ 38) (fun q h => by rw [(hf q).1, (hf q).2.1]; exact h) _ _ i.1.1, i.1.2⟩, mem_mod (P := fun e : zI => (i_h e).length ≤ 8) (fun q h => by rw [(hf q).2.2]; exact h) _ _ i.2⟩
theorem R8_X {k tgt : Nat} : R8 a (zX a k tgt) := ⟨rfl, rfl, fun i _ _ => Q8_mod (fun e => ⟨rfl, rfl, rfl⟩) i⟩
theorem R8_N {x : Int32 × zA} (h : zN a = .inr x) : R8 a x.2 := by
  obtain ⟨-, rfl⟩ := zN_inr.mp h; exact R8.refl a
theorem R8_must {k : Int32} {x : Int32 × zA} (h : zMust T k a = .inr x) : R8 a x.2 := by
  obtain ⟨-, -, rfl⟩ := zMust_inr.mp h; exact R8.refl a
theorem R8_opens {k : Int32} {x : Int32 × zA} (h : zOpens T k a = .inr x) : R8 a x.2 := by
  obtain ⟨-, -, rfl⟩ := zOpens_inr.mp h; exact R8.refl a
theorem R8_x {n : Nat} (h : zX_ T n a = .inr (y, b)) : R8 a b := R8_e (PrE_X n _ _ _ h) (E5_X n _ _ _ h)
theorem R8_exp (h : zExp T a = .inr (y, b)) : R8 a b := R8_x h
theorem R8_unit {n : Nat} (h : zUnit T (zX_ T n) a = .inr (y, b)) : R8 a b := R8_e (PrE_unit (PrE_X n) h) (E5_unit (E5_X n) h)
theorem R8_W : R8 a (aW a (0, 0, 0, 0)) := ⟨rfl, rfl, fun i _ _ => ⟨⟨i.1.1, i.1.2.1, fun z => absurd z (show (0 : Nat) ≠ 5 by decide)⟩, i.2⟩⟩
theorem R8_K {n : List Int32} (h : t ≠ 38) : R8 a (zKnow n t a) := ⟨rfl, rfl, fun i _ _ => ⟨⟨i.1.1, fun e he => by
  rcases List.mem_append.mp (show e ∈ a_k a ++ [_] from he) with z | z
  · exact i.1.2.1 e z
  · rw [List.mem_singleton.mp z]; exact h, i.1.2.2⟩, i.2⟩⟩
def pTs (t : Int32) : Prop := t = 36 ∨ ∃ n, n < 36 ∧ t = Int32.ofNat n
theorem pTs_38 (h : pTs t) : t ≠ 38 := by
  rcases h with rfl | ⟨n, hn, rfl⟩
  · decide
  · exact fun z => by
      have : n = 38 := (i_eq (by omega) (by omega)).mp z
      omega
theorem row_p : ∀ k, k < 18 → 18 + Int32.ofNat k = Int32.ofNat (18 + k) := by decide
theorem pTs_ty (hT : TK T N) (h : zTy T a = .inr (y, b)) : pTs y ∧ ∃ p, b = aP a p := by
  obtain ⟨h1, -, h2⟩ := zTy_inr h
  rcases h2 with ⟨h2, -⟩ | ⟨h3, -, -, -, -, h2⟩
  · cases h2
    refine ⟨?_, _, rfl⟩
    rcases tV_k hT h1 with ⟨k, hk, e⟩ | e
    · rw [e]; exact Or.inr ⟨k, by omega, rfl⟩
    · exact Or.inl e
  · cases h2
    refine ⟨?_, _, rfl⟩
    rcases tV_k hT h1 with ⟨k, hk, e⟩ | e
    · rw [e]; exact Or.inr ⟨18 + k, by omega, row_p k hk⟩
    · exact absurd e h3
theorem R8_new {x : Int32 × zA} (h : zNewN T t a = .inr x) : R8 a x.2 := by
  obtain ⟨-, -, -, -, rfl⟩ := zNewN_inr h; exact R8.refl a
theorem R8_var (hT : TK T N) (h : zVar T a = .inr (y, b)) : R8 a b := by
  unfold zVar at h
  rw [pb_inr] at h
  obtain ⟨_, a1, h1, h⟩ := h
  rw [pb_inr] at h
  obtain ⟨t, a2, h2, h⟩ := h
  obtain ⟨t2, p2, e2⟩ := pTs_ty hT h2
  rw [pb_inr] at h
  obtain ⟨sl, a3, h3, h⟩ := h
  rw [pb_inr] at h
  obtain ⟨_, a5, h5, h⟩ := h
  rw [pb_inr] at h
  obtain ⟨u, a6, h6, h⟩ := h
  rw [it_l, it_l, pb_inr] at h
  obtain ⟨-, -, _, a7, h7, h⟩ := h
  cases h
  refine (show R8 a a1 from R8_N h1).trans ((show R8 a1 a2 by rw [e2]; exact R8.refl _).trans ((show R8 a2 a3 from R8_new h3).trans ((show R8 a3 a5 from R8_must h5).trans ((R8_exp h6).trans ((show R8 a6 a7 from R8_N h7).trans ((R8_E (show (6 : Nat) ≠ 5 by decide)).trans (R8_K (pTs_38 t2))))))))
theorem R8_acts (h : zActs T a = .inr (y, b)) : R8 a b := by
  unfold zActs at h
  rw [pb_inr] at h
  obtain ⟨t, a1, h1, h⟩ := h
  refine (R8_unit h1).trans ?_
  split at h
  · rw [it_l, it_r, pb_inr] at h
    obtain ⟨-, -, _, a2, h2, h⟩ := h
    rw [pb_inr] at h
    obtain ⟨u, a3, h3, h⟩ := h
    rw [it_l, it_l, pb_inr] at h
    obtain ⟨-, -, _, a4, h4, h⟩ := h
    cases h
    exact R8_W.trans ((show R8 (aW a1 (0, 0, 0, 0)) a2 from R8_N h2).trans ((R8_exp h3).trans ((show R8 a3 a4 from R8_N h4).trans (R8_E (by split <;> (first | decide | (split <;> decide)))))))
  · rw [it_l, pb_inr] at h
    obtain ⟨-, _, a2, h2, h⟩ := h
    cases h
    exact (show R8 a1 a2 from R8_N h2).trans (R8_E (by split <;> decide))
theorem R8_cond {p0 : Nat} (h : zCond T p0 a = .inr (y, b)) : R8 a b := by
  unfold zCond at h
  rw [pb_inr] at h
  obtain ⟨_, a1, h1, h⟩ := h
  unfold zCon at h
  rw [pb_inr] at h
  obtain ⟨_, a2, h2, h⟩ := h
  rw [pb_inr] at h
  obtain ⟨t, a3, h3, h⟩ := h
  rw [it_l, it_l, pb_inr] at h
  obtain ⟨-, -, _, a4, h4, h⟩ := h
  cases h
  exact (show R8 a a1 from R8_N h1).trans ((show R8 a1 a2 from R8_opens h2).trans ((R8_x h3).trans ((show R8 a3 a4 from R8_N (a := aO a3 (a_o a3 - 1)) h4).trans (R8_E (show (26 : Nat) ≠ 5 by decide)))))
theorem R8_ret (h : zRet T a = .inr (y, b)) : R8 a b := by
  unfold zRet at h
  rw [pb_inr] at h
  obtain ⟨_, a1, h1, h⟩ := h
  refine (show R8 a a1 from R8_N h1).trans ?_
  split at h
  · rw [it_l, pb_inr] at h
    obtain ⟨-, _, a2, h2, h⟩ := h
    cases h
    exact (show R8 a1 a2 from R8_N h2).trans (R8_E (show (24 : Nat) ≠ 5 by decide))
  · rw [pb_inr] at h
    obtain ⟨t, a2, h2, h⟩ := h
    rw [it_l, it_l, pb_inr] at h
    obtain ⟨-, -, _, a3, h3, h⟩ := h
    cases h
    exact (R8_exp h2).trans ((show R8 a2 a3 from R8_N h3).trans (R8_E (show (24 : Nat) ≠ 5 by decide)))
theorem R8_say (h : zSay T a = .inr (y, b)) : R8 a b := by
  unfold zSay at h
  rw [pb_inr] at h
  obtain ⟨_, a1, h1, h⟩ := h
  rw [pb_inr] at h
  obtain ⟨t, a2, h2, h⟩ := h
  rw [it_l, it_l, pb_inr] at h
  obtain ⟨-, -, _, a3, h3, h⟩ := h
  cases h
  exact (show R8 a a1 from R8_N h1).trans ((R8_exp h2).trans ((show R8 a2 a3 from R8_N h3).trans (R8_E (by split <;> decide))))
theorem R8_fail (h : zFail T a = .inr (y, b)) : R8 a b := by
  unfold zFail at h
  rw [pb_inr] at h
  obtain ⟨_, a1, h1, h⟩ := h
  rw [pb_inr] at h
  obtain ⟨t, a2, h2, h⟩ := h
  rw [it_l, it_l, pb_inr] at h
  obtain ⟨-, -, _, a3, h3, h⟩ := h
  cases h
  exact (show R8 a a1 from R8_N h1).trans ((R8_exp h2).trans ((show R8 a2 a3 from R8_N h3).trans (R8_E (show (25 : Nat) ≠ 5 by decide))))
/-- a block -/
def B8 (a b : zA) : Prop := a_h b = a_h a ∧ a_r b = a_r a ∧ (Q8 a → (a_h a).length ≤ a_r a → Q8 b)
def SB8 (blk : zA → zR) : Prop := ∀ a y b, blk a = .inr (y, b) → B8 a b
theorem R8_b (h : B8 a b) : R8 a b := ⟨h.1, h.2.1, fun i h1 _ => h.2.2 i (by omega)⟩
theorem R8_if (hb : SB8 blk) (h : zIf T blk a = .inr (y, b)) : R8 a b := by
  unfold zIf at h
  rw [pb_inr] at h
  obtain ⟨_, a1, h1, h⟩ := h
  rw [pb_inr] at h
  obtain ⟨_, a2, h2, h⟩ := h
  refine (R8_cond h1).trans ((R8_b (hb _ _ _ h2)).trans ?_)
  split at h
  · rw [pb_inr] at h
    obtain ⟨_, a3, h3, h⟩ := h
    rw [pb_inr] at h
    obtain ⟨_, a4, h4, h⟩ := h
    cases h
    exact ((R8_E (show (0 : Nat) ≠ 5 by decide)).trans R8_X).trans ((show R8 _ a3 from R8_N h3).trans ((R8_b (hb _ _ _ h4)).trans R8_X))
  · cases h; exact R8_X
theorem R8_while (hb : SB8 blk) (h : zWhile T blk a = .inr (y, b)) : R8 a b := by
  unfold zWhile at h
  rw [pb_inr] at h
  obtain ⟨_, a1, h1, h⟩ := h
  rw [pb_inr] at h
  obtain ⟨_, a2, h2, h⟩ := h
  cases h
  exact (R8_cond h1).trans ((R8_b (hb _ _ _ h2)).trans ((R8_E (show (0 : Nat) ≠ 5 by decide)).trans R8_X))
theorem R8_try (hb : SB8 blk) (h : zTry T blk a = .inr (y, b)) : R8 a b := by
  unfold zTry at h
  rw [pb_inr] at h
  obtain ⟨_, a1, h1, h⟩ := h
  refine (show R8 a a1 from R8_N h1).trans ?_
  rw [pb_inr] at h
  obtain ⟨_, a2, h2, h⟩ := h
  obtain ⟨b1, b2, b3⟩ := hb _ _ _ h2
  rw [pb_inr] at h
  obtain ⟨_, a3, h3, h⟩ := h
  rw [pb_inr] at h
  obtain ⟨_, a4, h4, h⟩ := h
  rw [pb_inr] at h
  obtain ⟨sl, a5, h5, h⟩ := h
  rw [pb_inr] at h
  obtain ⟨_, a7, h7, h⟩ := h
  rw [pb_inr] at h
  obtain ⟨_, a8, h8, h⟩ := h
  cases h
  generalize hA : aC (aH (zE a1 33 0 0 0 (-1)) (zL a1 :: a_h a1)) (a_c a1 ++ [zL a1]) = A at h2 b1 b2 b3
  have A1 : a_h A = zL a1 :: a_h a1 := by rw [← hA]; rfl
  have A2 : a_r A = a_r a1 := by rw [← hA]; rfl
  have A3 : Q8 (zE a1 33 0 0 0 (-1)) → Q8 A := by
    rw [← hA]; exact Q8_q rfl rfl rfl
  generalize hB : zE (aH (zE a2 34 0 0 0 (-1)) (a_h a1)) 0 0 0 0 (-1) = B at h3
  have B1 : a_h B = a_h a1 := by rw [← hB]; rfl
  have B2 : a_r B = a_r a2 := by rw [← hB]; rfl
  have B3 : (a_h a1).length ≤ 8 → Q8 (zE a2 34 0 0 0 (-1)) → Q8 B := fun h8 q => by
    rw [← hB]
    exact Q8_E (by decide) h8 (Q8_q (a := zE a2 34 0 0 0 (-1)) rfl rfl rfl q)
  have k0 : R8 a1 B := by
    refine ⟨B1, B2.trans (b2.trans A2), fun i i1 i2 => ?_⟩
    have q2 : Q8 a2 := b3 (A3 (Q8_E (by decide) (by omega) i)) (by rw [A1, A2]; exact i1)
    exact B3 (by omega) (Q8_E (by decide) (by rw [b1, A1]; show (a_h a1).length + 1 ≤ 8; omega) q2)
  have l3 : R8 B a3 := R8_must h3
  have l4 : R8 a3 a4 := R8_must h4
  have l5 : R8 a4 a5 := R8_new h5
  have l7 : R8 a5 a7 := R8_must h7
  have k1 : R8 a1 a7 := k0.trans (l3.trans (l4.trans (l5.trans l7)))
  refine k1.trans ?_
  have k2 : R8 a7 (zCat (zL a1) (a_c a1).length (zL a7) (a_m a7) a7) := ⟨rfl, rfl, fun i _ _ => (Q8_mod (f := fun e => (e.1, Int32.ofNat (a_m a7), zL a7, e.2.2.2)) (k := zL a1) (fun e => ⟨rfl, rfl, rfl⟩) i)⟩
  have k3 := k2.trans ((R8_E (op := 2) (arg := sl) (tgt := 0) (ty := 36) (pl := -1) (by decide)).trans ((R8_K (n := T.2.1 (a_p a4)) (t := 36) (by decide)).trans (R8_b (hb _ _ _ h8))))
  obtain ⟨c1, c2, c3⟩ := k3
  refine R8.trans (b := aK a8 (a_k a7)) ⟨c1, c2, fun i i1 i2 => ?_⟩ R8_X
  have q8 := c3 i i1 i2
  exact ⟨⟨q8.1.1, i.1.2.1, q8.1.2.2⟩, q8.2⟩
theorem R8_stat (hT : TK T N) (hb : SB8 blk) (h : zStat T blk a = .inr (y, b)) : R8 a b := by
  have k : R8 (aO a 0) b := by
    unfold zStat zSta at h
    split at h
    · exact R8_var hT h
    split at h
    · exact R8_if hb h
    split at h
    · exact R8_while hb h
    split at h
    · exact R8_try hb h
    split at h
    · exact R8_ret h
    split at h
    · exact R8_say h
    split at h
    · exact R8_fail h
    · exact R8_acts h
  exact k
theorem R8_stats (hT : TK T N) (hb : SB8 blk) : ∀ (f : Nat) (a : zA) (y : Int32) (b : zA), zStats T blk f a = .inr (y, b) → R8 a b
  | 0, a, y, b, h => by cases h
  | f + 1, a, y, b, h => by
    rw [zStats] at h
    split at h
    · cases h; exact R8.refl _
    · rw [pb_inr] at h
      obtain ⟨_, a1, h1, h⟩ := h
      exact (R8_stat hT hb h1).trans (R8_stats hT hb f _ _ _ h)
theorem B8_blk (hT : TK T N) : ∀ n, SB8 (zBlk T n)
  | 0 => fun a y b h => by cases h
  | n + 1 => fun a y b h => by
    rw [zBlk, it_l, pb_inr] at h
    obtain ⟨⟨-, hr⟩, _, a1, h1, h⟩ := h
    rw [pb_inr] at h
    obtain ⟨_, a2, h2, h⟩ := h
    rw [pb_inr] at h
    obtain ⟨_, a3, h3, h⟩ := h
    cases h
    obtain ⟨-, e1⟩ := zN_inr.mp h1
    obtain ⟨-, e3⟩ := zN_inr.mp h3
    have e1 := congrArg Prod.snd e1
    have e1 : a1 = aP (aR a (a_r a + 1)) (a_p a + 1) := e1
    have e3 := congrArg Prod.snd e3
    have e3 : b = aP (aR (aK a2 (a_k a1)) (a_r a2 - 1)) (a_p a2 + 1) := e3
    obtain ⟨c1, c2, c3⟩ := R8_stats hT (B8_blk hT n) 801 _ _ _ h2
    subst e1
    subst e3
    refine ⟨c1, ?_, fun i i1 => ?_⟩
    · show a_r a2 - 1 = a_r a
      rw [c2]; rfl
    · have q := c3 i (by show (a_h a).length + 1 ≤ a_r a + 1; omega) (by show a_r a + 1 ≤ 8; omega)
      exact ⟨⟨q.1.1, i.1.2.1, q.1.2.2⟩, q.2⟩
end
