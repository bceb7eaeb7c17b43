section
/-! A READ TEXT IS A TEXT THE MACHINE MAY RUN -/
variable {T : zT} {N : Nat} {a b c : zA} {y t : Int32} {sub blk : zA → zR} {R : Nat → Int32} {n : Nat}
def Y8 (a : zA) : Prop := Q8 a ∧ ∀ q ∈ a_q a, pTy q.2.1
theorem pTs_p (h : pTs t) : pTy t := by
  rcases h with h | h
  · exact Or.inl h
  · exact Or.inr (Or.inr h)
theorem Y8_q (h1 : a_i b = a_i a) (h2 : a_k b = a_k a) (h3 : a_w b = a_w a) (h4 : a_q b = a_q a) (i : Y8 a) : Y8 b := ⟨Q8_q h1 h2 h3 i.1, by rw [h4]; exact i.2⟩
theorem Y8_K {l : List Int32} (h : t ≠ 38) (i : Y8 a) : Y8 (zKnow l t a) := ⟨⟨⟨i.1.1.1, fun e he => by
  rcases List.mem_append.mp (show e ∈ a_k a ++ [_] from he) with z | z
  · exact i.1.1.2.1 e z
  · rw [List.mem_singleton.mp z]; exact h, i.1.1.2.2⟩, i.1.2⟩, i.2⟩
theorem Y8_L {f : zP → zP} (hf : ∀ q, pTy q.2.1 → pTy (f q).2.1) (i : Y8 a) : Y8 (qLast a f) := ⟨Q8_q (a := a) rfl rfl rfl i.1, mem_mod (P := fun q : zP => pTy q.2.1) hf _ _ i.2⟩
theorem Y8_par1 (hT : TK T N) (i : Y8 a) (hz : zPar1 T a = .inr (y, b)) : Y8 b := by
  unfold zPar1 at hz
  rw [pb_inr] at hz
  obtain ⟨t, a1, h1, hz⟩ := hz
  obtain ⟨t1, p1, e1⟩ := pTs_ty hT h1
  have i1 : Y8 a1 := by rw [e1]; exact Y8_q (a := a) rfl rfl rfl rfl i
  rw [it_l] at hz
  obtain ⟨-, hz⟩ := hz
  revert hz
  cases kFind (T.2.1 (a_p a1)) (a_k a1) with
  | some e => intro hz; cases hz
  | none =>
    intro hz
    have hz : (if (((a_q a1).getLast?.map (fun q => q.2.2.1.length)).getD 0) = 4 then (Sum.inl (5, a_p a1) : zR) else pb (zN (zKnow (T.2.1 (a_p a1)) t (qLast a1 (fun q => (q.1, q.2.1, q.2.2.1 ++ [t], q.2.2.2))))) (fun _ a2 => .inr (0, a2))) = .inr (y, b) := hz
    rw [it_r, pb_inr] at hz
    obtain ⟨-, _, a2, h2, hz⟩ := hz
    obtain ⟨n2, e2⟩ := zN_inr.mp h2
    cases hz
    have e2 : b = aP _ _ := congrArg Prod.snd e2
    rw [e2]
    exact Y8_q (a := zKnow (T.2.1 (a_p a1)) t (qLast a1 (fun q => (q.1, q.2.1, q.2.2.1 ++ [t], q.2.2.2)))) rfl rfl rfl rfl (Y8_K (pTs_38 t1) (Y8_L (fun q h => h) i1))
theorem Y8_pars (hT : TK T N) : ∀ (f : Nat) (a : zA) (y : Int32) (b : zA), Y8 a → zPars T f a = .inr (y, b) → Y8 b
  | 0, _, _, _, _, h => by cases h
  | f + 1, a, y, b, i, h => by
    rw [zPars, pb_inr] at h
    obtain ⟨_, a1, h1, h⟩ := h
    have i1 := Y8_par1 hT i h1
    split at h
    · rw [pb_inr] at h
      obtain ⟨_, a2, h2, h⟩ := h
      obtain ⟨-, e2⟩ := zN_inr.mp h2
      have e2 : a2 = aP a1 _ := congrArg Prod.snd e2
      exact Y8_pars hT f a2 y b (by rw [e2]; exact Y8_q (a := a1) rfl rfl rfl rfl i1) h
    · cases h; exact i1
theorem Y8_head (hT : TK T N) (i : Y8 a) (h : zHead T a = .inr (y, b)) : Y8 b := by
  unfold zHead at h
  rw [pb_inr] at h
  obtain ⟨_, a1, h1, h⟩ := h
  obtain ⟨-, -, e1⟩ := zMust_inr.mp h1
  have e1 : a1 = aP a _ := congrArg Prod.snd e1
  have i1 : Y8 a1 := by rw [e1]; exact Y8_q (a := a) rfl rfl rfl rfl i
  rw [pb_inr] at h
  obtain ⟨_, a2, h2, h⟩ := h
  have i2 : Y8 a2 := by
    unfold zPNm at h2
    rw [it_l, it_l, it_r, pb_inr] at h2
    obtain ⟨-, -, -, _, a2', h2, h2'⟩ := h2
    obtain ⟨-, e2⟩ := zN_inr.mp h2
    cases h2'
    have e2 : a2 = aP (aQ a1 (a_q a1 ++ [(T.2.1 (a_p a1), 38, [], zL a1)])) _ := congrArg Prod.snd e2
    rw [e2]
    refine ⟨Q8_q (a := a1) rfl rfl rfl i1.1, fun q hq => ?_⟩
    rcases List.mem_append.mp (show q ∈ a_q a1 ++ [_] from hq) with z | z
    · exact i1.2 q z
    · rw [List.mem_singleton.mp z]; exact Or.inr (Or.inl rfl)
  rw [pb_inr] at h
  obtain ⟨_, a3, h3, h⟩ := h
  obtain ⟨-, -, e3⟩ := zMust_inr.mp h3
  have e3 : a3 = aP (aR (aM (aK a2 []) 0) 0) _ := congrArg Prod.snd e3
  have i3 : Y8 a3 := by
    rw [e3]
    exact ⟨⟨⟨i2.1.1.1, fun e he => (by cases he), i2.1.1.2.2⟩, i2.1.2⟩, i2.2⟩
  rw [pb_inr] at h
  obtain ⟨_, a4, h4, h⟩ := h
  have i4 : Y8 a4 := by
    split at h4
    · cases h4; exact i3
    · exact Y8_pars hT 801 _ _ a4 i3 h4
  rw [pb_inr] at h
  obtain ⟨_, a5, h5, h⟩ := h
  obtain ⟨-, -, e5⟩ := zMust_inr.mp h5
  have e5 : a5 = aP a4 _ := congrArg Prod.snd e5
  have i5 : Y8 a5 := by rw [e5]; exact Y8_q (a := a4) rfl rfl rfl rfl i4
  unfold zGiv at h
  split at h
  · rw [pb_inr] at h
    obtain ⟨_, a6, h6, h⟩ := h
    obtain ⟨-, e6⟩ := zN_inr.mp h6
    have e6 : a6 = aP a5 _ := congrArg Prod.snd e6
    have i6 : Y8 a6 := by rw [e6]; exact Y8_q (a := a5) rfl rfl rfl rfl i5
    rw [pb_inr] at h
    obtain ⟨t, a7, h7, h⟩ := h
    obtain ⟨t7, p7, e7⟩ := pTs_ty hT h7
    have i7 : Y8 a7 := by rw [e7]; exact Y8_q (a := a6) rfl rfl rfl rfl i6
    cases h
    exact Y8_L (fun q _ => pTs_p t7) i7
  · cases h; exact i5
theorem Y8_proc (hT : TK T N) (hi : TI a) (hp : a_p a ≤ 800) (hx : TX a) (i : Y8 a) (h : zProc T a = .inr (y, b)) : Y8 b := by
  obtain ⟨x1, x2, x3, x4, x5⟩ := hx
  unfold zProc at h
  rw [pb_inr] at h
  obtain ⟨_, a8, h8, h⟩ := h
  have i8 := Y8_head hT i h8
  obtain ⟨hH, -, -⟩ := Head_H hT hi hp h8
  obtain ⟨-, p8⟩ := HX_head x2 hp h8
  rw [pb_inr] at h
  obtain ⟨_, a9, h9, h⟩ := h
  cases h
  have hh8 : a_h a8 = [] := hH.2.2.2.2.2.1
  obtain ⟨d9, -, -⟩ := D_blk (PT_ty hT) 9 (aB a8 (a_b a8 + 1)) _ a9 p8 hH.1 h9
  have q9 : a_q a9 = a_q a8 := d9.2.2.2.2.2.2.1
  obtain ⟨c1, c2, c3⟩ := B8_blk hT 9 _ _ _ h9
  have c1 : a_h a9 = a_h a8 := c1
  have q8 := c3 (Q8_q (a := a8) rfl rfl rfl i8.1) (by show (a_h a8).length ≤ _; rw [hh8]; exact Nat.zero_le _)
  refine ⟨Q8_E (show (3 : Nat) ≠ 5 by decide) (by rw [c1, hh8]; exact Nat.zero_le _) q8, ?_⟩
  show ∀ q ∈ a_q a9, _
  rw [q9]; exact i8.2
theorem Y8_text (hT : TK T N) : ∀ (f : Nat) (a b : zA) (y : Int32), TI a → a_p a ≤ 800 → TX a → Y8 a → zText T f a = .inr (y, b) → Y8 b ∧ a_p b ≤ 800
  | 0, _, _, _, _, _, _, _, h => by cases h
  | f + 1, a, b, y, hi, hp, hx, i, h => by
    rw [zText, pb_inr] at h
    obtain ⟨_, a1, h1, h⟩ := h
    obtain ⟨i1, -, l1⟩ := Proc_T hT hi hp h1
    have x1 := G_proc hT hi hp hx h1
    have y1 := Y8_proc hT hi hp hx i h1
    split at h
    · cases h; exact ⟨y1, l1⟩
    · exact Y8_text hT f a1 b y i1 l1 x1 y1 h
theorem Y8_0 : Y8 zA0 := ⟨⟨⟨fun e he => (by cases he), fun e he => (by cases he), fun z => absurd z (by decide)⟩, fun e he => (by cases he)⟩, fun q hq => (by cases hq)⟩
theorem WTx_read (h : zText (zTk R n) 802 zA0 = .inr (y, b)) : WTx (a_i b, a_c b, a_q b) := by
  obtain ⟨N, hN⟩ := tLast_ex R n
  have hT := TK_of hN
  have hx := G_text hT 802 zA0 b y TI_0 (Nat.zero_le _) TX_0 h
  obtain ⟨hi, -⟩ := Text_T hT 802 zA0 b y TI_0 (Nat.zero_le _) rfl h
  obtain ⟨h8, hp⟩ := Y8_text hT 802 zA0 b y TI_0 (Nat.zero_le _) TX_0 Y8_0 h
  obtain ⟨x1, x2, x3, x4, x5⟩ := hx
  obtain ⟨j1, j2, j3, j4, j5, j6⟩ := hi
  exact ⟨x1, x4, x5, by show zL b ≤ 800; omega, j3, by show (a_c b).length < 100; omega, h8.1.2, h8.2, h8.1.1.1⟩
theorem WTx_0 : WTx ([], [], []) := ⟨fun k e hk => (by cases hk), fun q hq => (by cases hq), fun i p hi => (by cases hi), Nat.zero_le _, Nat.zero_le _, by decide, fun e he => (by cases he), fun q hq => (by cases hq), fun e he => (by cases he)⟩
end
