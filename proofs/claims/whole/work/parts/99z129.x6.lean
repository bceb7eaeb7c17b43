section
/-! EXPRESSIONS ARE WELL-TYPED -/
variable {T : zT} {N : Nat} {a b c a0 : zA} {sub : zA → zR} {t u y : Int32} {P : List Nat}
/-- who came to his place comes to it still -/
def LM (a b : zA) : Prop := ∀ j g, Lands (a_i a) (some (gNow a)) j g → Lands (a_i b) (some (gNow b)) j g
def XG (a b : zA) : Prop := (∀ P, WTa P a → WTa P b) ∧ (∃ L, a_i b = a_i a ++ L ∧ ∀ e ∈ L, isAct e.1) ∧ a_q b = a_q a ∧ a_k b = a_k a ∧ LM a b
theorem XG.refl (a : zA) : XG a a := ⟨fun _ h => h, ⟨[], by simp, fun e he => by cases he⟩, rfl, rfl, fun _ _ h => h⟩
theorem XG.trans (h : XG a b) (k : XG b c) : XG a c := by
  obtain ⟨h1, ⟨L, h2, h3⟩, h4, h5, h6⟩ := h
  obtain ⟨k1, ⟨M, k2, k3⟩, k4, k5, k6⟩ := k
  exact ⟨fun P z => k1 P (h1 P z), ⟨L ++ M, by rw [k2, h2, List.append_assoc], fun e he => (List.mem_append.mp he).elim (h3 e) (k3 e)⟩, k4.trans h4, k5.trans h5, fun j g z => k6 j g (h6 j g z)⟩
theorem XG_P {p : Nat} (h : XG a b) : XG a (aP b p) := h
theorem XG_O {p : Nat} (h : XG a b) : XG a (aO b p) := h
theorem XG_S {p : Nat} (h : XG a b) : XG a (aS b p) := h
theorem XG_W {p : Nat × Int32 × Int32 × Int32} (h : XG a b) : XG a (aW b p) := h
theorem zL_E2 {op : Nat} {arg ty pl : Int32} : zL (zE a op arg 0 ty pl) = zL a + 1 := zL_E
theorem gNx_d {ps : List zP} {k op tgt : Nat} {arg ty pl : Int32} {g : zG} (h : op ≠ 6 ∧ op ≠ 2 ∧ op ≠ 33 ∧ op ≠ 34) : gNx ps k (op, arg, tgt, pl, ty, g) = (effS ps op arg ty g.1, g.2) := by
  unfold gNx
  split
  · rename_i z; exact absurd z h.1
  · rename_i z; exact absurd z h.2.1
  · rename_i z; exact absurd z h.2.2.1
  · rename_i z; exact absurd z h.2.2.2
  · rfl
theorem XG_E {op : Nat} {arg ty pl : Int32} (h1 : 4 ≤ op) (h2 : op < 33) (h3 : op ≠ 6 ∧ op ≠ 26) (ht : tOk (a_q a) (op, arg, 0, pl, ty, gNow a)) (hl : (a_t a).length ≤ 80) : XG a (zE a op arg 0 ty pl) := by
  refine ⟨fun P w => ?_, ⟨[(op, arg, 0, pl, ty, gNow a)], rfl, fun e he => ?_⟩, rfl, rfl, (Ext_app (P := []) (ps := a_q a) (ct := a_c a) (e := (op, arg, 0, pl, ty, gNow a)) (by show op ≠ 2; omega) rfl).1⟩
  · refine WTa_app w rfl rfl rfl hl (by omega) ⟨by omega, h3.2, by omega⟩ ht (fun _ => ?_) ?_ w.2.2
    · rw [gNx_d ⟨h3.1, by omega, by omega, by omega⟩]
      exact gFits.refl _
    · have E : Ext P (a_i a) (a_q a) (a_c a) (some (gNow a)) (a_i a ++ [(op, arg, 0, pl, ty, gNow a)]) (a_q a) (a_c a) none := Ext_app (by show op ≠ 2; omega) rfl
      exact hOk_w (hOk_e (E := E) w.2.1) (fun _ h => h) rfl rfl
  · rcases List.mem_singleton.mp he with rfl
    exact ⟨h1, h2⟩
def QB (a : zA) : Prop := (∀ q ∈ a_q a, q.2.2.1.length ≤ 4) ∧ (a_q a).length ≤ 12 ∧ (∀ x ∈ a_k a, x.2.2 < 24)
theorem QB_x (h : QB a) (k : XG a b) : QB b := by
  obtain ⟨-, -, k3, k4, -⟩ := k
  exact ⟨by rw [k3]; exact h.1, by rw [k3]; exact h.2.1, by rw [k4]; exact h.2.2⟩
def SubG (sub : zA → zR) : Prop := ∀ a y b, QB a → (a_t a).length ≤ 2 + 6 * a_o a → a_o a ≤ 10 → sub a = .inr (y, b) → XG a b ∧ a_t b = y :: a_t a ∧ zL a < zL b ∧ a_o b = a_o a ∧ (a_w b).1 = 0
/-- what a unit leaves: y is its type; it waits, or lies on the stack -/
def wT (S : List Int32) (n : Nat) (b : zA) (y : Int32) : Prop :=
  ((a_w b).1 = 0 ∧ a_t b = y :: S ∧ n < zL b) ∨
  (∃ s pl, a_w b = (5, Int32.ofNat s, pl, y) ∧ a_t b = S ∧ (s, y) ∈ (gNow b).2.1) ∨
  (∃ t pl, a_w b = (15, 0, pl, y) ∧ a_t b = 36 :: t :: S ∧ (¬ t < 18 ∧ t < 36) ∧ y = t - 18) ∨
  (∃ t f pl, a_w b = (17, Int32.ofNat f, pl, y) ∧ f < 9 ∧ a_t b = t :: S ∧ cFit t (fOwn (Int32.ofNat f)) = 1 ∧ y = if Int32.ofNat f = 1 then 0 else 36)
def UG (a0 b : zA) (y : Int32) : Prop := XG a0 b ∧ a_o b = a_o a0 ∧ wT (a_t a0) (zL a0) b y
theorem XG_le (h : XG a b) : zL a ≤ zL b := by
  obtain ⟨-, ⟨L, h, -⟩, -⟩ := h
  unfold zL; rw [h, List.length_append]; exact Nat.le_add_right _ _
/-- what waits is read -/
theorem UG_reads (hl : (a_t a0).length ≤ 70) (h : UG a0 b y) : XG a0 (zReads b) ∧ a_t (zReads b) = y :: a_t a0 ∧ zL a0 < zL (zReads b) ∧ a_o (zReads b) = a_o a0 ∧ (a_w (zReads b)).1 = 0 := by
  obtain ⟨hx, ho, hw⟩ := h
  have hle := XG_le hx
  unfold zReads
  rcases hw with ⟨w1, w2, w3⟩ | ⟨s, pl, w1, w2, w3⟩ | ⟨t, pl, w1, w2, w3, w4⟩ | ⟨t, f, pl, w1, wf, w2, w3, w4⟩
  · rw [if_neg (by rw [w1]; decide)]
    exact ⟨XG_W hx, w2, w3, ho, rfl⟩
  · rw [if_pos (by rw [w1]; exact Or.inl rfl), w1]
    refine ⟨XG_W (hx.trans (XG_E (op := 5) (by decide) (by decide) (by decide) ⟨s, rfl, w3⟩ (by rw [w2]; omega))), ?_, ?_, ho, rfl⟩
    · show [y] ++ (a_t b).drop 0 = _
      rw [w2]; rfl
    · show zL a0 < zL (zE b _ _ _ _ _); rw [zL_E]; omega
  · rw [if_pos (by rw [w1]; exact Or.inr (Or.inl rfl)), w1]
    refine ⟨XG_W (hx.trans (XG_E (op := 15) (by decide) (by decide) (by decide) ⟨t, a_t a0, w2, w3, w4⟩ (by rw [w2]; simp only [List.length_cons]; omega))), ?_, ?_, ho, rfl⟩
    · show [y] ++ (a_t b).drop 2 = _
      rw [w2]; rfl
    · show zL a0 < zL (zE b _ _ _ _ _); rw [zL_E]; omega
  · rw [if_pos (by rw [w1]; exact Or.inr (Or.inr rfl)), w1]
    refine ⟨XG_W (hx.trans (XG_E (op := 17) (by decide) (by decide) (by decide) ⟨t, a_t a0, w2, ⟨f, wf, rfl⟩, w3, w4⟩ (by rw [w2]; simp only [List.length_cons]; omega))), ?_, ?_, ho, rfl⟩
    · show [y] ++ (a_t b).drop 1 = _
      rw [w2]; rfl
    · show zL a0 < zL (zE b _ _ _ _ _); rw [zL_E]; omega
theorem fitAll_s {us ts : List Int32} {i : Nat} {u t : Int32} (h : ∀ (i : Nat) (u t : Int32), us[i]? = some u → ts[i]? = some t → cFit u t = 1) (hi : us.length = i) (ht : ts.getD i 38 = t) (hf : cFit u t = 1) (hl : i < ts.length) : ∀ (i : Nat) (v t : Int32), (us ++ [u])[i]? = some v → ts[i]? = some t → cFit v t = 1 := by
  intro j v t' hj hj'
  rcases Nat.lt_or_ge j us.length with z | z
  · rw [List.getElem?_append_left z] at hj; exact h j v t' hj hj'
  · have hl2 := (List.getElem?_eq_some_iff.mp hj).1
    rw [List.length_append] at hl2
    have hl2 : j < us.length + 1 := hl2
    have : j = us.length := by omega
    subst this
    have hj : some u = some v := by rw [← hj]; simp
    cases hj
    subst hi
    rw [List.getD_eq_getElem?_getD, hj'] at ht
    have ht : t' = t := ht
    rw [ht]; exact hf
/-- the arguments of a call -/
theorem G_args {ps S : List Int32} {o : Nat} (hs : SubG sub) (h4 : ps.length ≤ 4) (hS : S.length ≤ 5 + 6 * o) (ho : o < 10) : ∀ (f i : Nat) (a : zA) (n : Int32) (b : zA) (us : List Int32), QB a → a_o a = o + 1 → a_t a = us.reverse ++ S → us.length = i → (∀ (i : Nat) (u t : Int32), us[i]? = some u → ps[i]? = some t → cFit u t = 1) → zArgs T sub ps f i a = .inr (n, b) →
    XG a b ∧ a_o b = o + 1 ∧ (a_w b).1 = 0 ∧ ∃ vs : List Int32, a_t b = vs.reverse ++ S ∧ n = Int32.ofNat vs.length ∧ vs.length ≤ ps.length ∧ (∀ (i : Nat) (u t : Int32), vs[i]? = some u → ps[i]? = some t → cFit u t = 1)
  | 0, _, _, _, _, _, _, _, _, _, _, h => by cases h
  | f + 1, i, a, n, b, us, hq, hao, hat, hi, hus, h => by
    rw [zArgs, pb_inr] at h
    obtain ⟨t, a1, h1, h2⟩ := h
    rw [it_l, it_l] at h2
    obtain ⟨c1, c2, h3⟩ := h2
    obtain ⟨x1, t1, l1, o1, w1⟩ := hs a t a1 hq (by rw [hat, hao, List.length_append, List.length_reverse]; omega) (by omega) h1
    have hus1 := fitAll_s hus hi rfl c2.2 c2.1
    have t2 : a_t a1 = (us ++ [t]).reverse ++ S := by rw [t1, hat]; simp
    by_cases q : T.1 (a_p a1) = 44
    · rw [if_pos q, pb_inr] at h3
      obtain ⟨_, a2, h4', h5⟩ := h3
      obtain ⟨n1, e1⟩ := zN_inr.mp h4'
      cases e1
      obtain ⟨x2, r⟩ := G_args hs h4 hS ho f (i + 1) (aP a1 (a_p a1 + 1)) n b (us ++ [t]) (QB_x hq x1) (o1.trans hao) t2 (by simp [hi]) hus1 h5
      exact ⟨x1.trans x2, r⟩
    · rw [if_neg q] at h3
      cases h3
      exact ⟨x1, o1.trans hao, w1, us ++ [t], t2, by simp [hi], by simp only [List.length_append, List.length_cons, List.length_nil]; omega, hus1⟩
theorem qPar_d : ∀ i, i < 5 → (qPar [] (Int32.ofNat (12 + i)) = fivP i ∧ ¬ Int32.ofNat (12 + i) < 12 ∧ (Int32.ofNat (12 + i) + 16).toNatClampNeg = 28 + i ∧ qGiv [] (Int32.ofNat (12 + i)) = fivG i ∧ (fivP i).length ≤ 4) := by decide
theorem qPar_n {ps : List zP} {q : Int32} (h : ¬ q < 12) : qPar ps q = qPar [] q ∧ qGiv ps q = qGiv [] q := by
  unfold qPar qGiv; rw [if_neg h, if_neg h, if_neg h, if_neg h]; exact ⟨rfl, rfl⟩
/-- which proc a name is -/
theorem pFind_x {n : List Int32} {ps : List zP} (h12 : ps.length ≤ 12) (h : pFind n ps ≠ -1) : (∃ i p, i < 12 ∧ ps[i]? = some p ∧ pFind n ps = Int32.ofNat i) ∨ ∃ i, i < 5 ∧ pFind n ps = Int32.ofNat (12 + i) := by
  unfold pFind at h ⊢
  cases hq : qFind n ps 0 with
  | some i =>
    have := qFind_lt hq
    exact Or.inl ⟨i, ps[i]'(by omega), by omega, List.getElem?_eq_getElem _, rfl⟩
  | none =>
    rw [hq] at h
    right
    rcases whr_ge n sm_fives 12 (by decide) with w | ⟨j, j1, j2, w⟩
    · exact absurd w h
    · have : sm_fives.length = 5 := by decide
      exact ⟨j - 12, by omega, by show whr n sm_fives 12 = _; rw [show 12 + (j - 12) = j by omega]; exact w⟩
end
