section
/-! HEADS, PROCS, THE TEXT -/
variable {T : zT} {N : Nat} {a b c a0 : zA} {t u y : Int32}
def kPar (ts : List Int32) : List (Nat × Int32) := (List.range ts.length).map (fun i => (i, ts.getD i 0))
theorem kPar_app {ts : List Int32} : kPar (ts ++ [t]) = kPar ts ++ [(ts.length, t)] := by
  unfold kPar
  rw [List.length_append, show ts.length + [t].length = ts.length + 1 from rfl, List.range_succ, List.map_append]
  congr 1
  · refine List.map_congr_left (fun i hi => ?_)
    have := List.mem_range.mp hi
    rw [List.getD_eq_getElem?_getD, List.getElem?_append_left this, ← List.getD_eq_getElem?_getD]
  · simp
theorem kPar_lt {ts : List Int32} : ∀ x ∈ kPar ts, x.1 < ts.length := by
  intro x hx
  obtain ⟨i, hi, rfl⟩ := List.mem_map.mp hx
  exact List.mem_range.mp hi
theorem kPar_p {ts : List Int32} : (kPar ts).Pairwise (fun x y => x.1 < y.1) := by
  unfold kPar
  rw [List.pairwise_map]
  exact List.pairwise_lt_range
def HX (a0 a : zA) : Prop := a_i a = a_i a0 ∧ a_c a = a_c a0 ∧ a_t a = [] ∧ ∃ nm gv par, a_q a = a_q a0 ++ [(nm, gv, par, zL a0)] ∧ par.length ≤ 4 ∧ (a_k a).map (fun e => (e.2.2, e.2.1)) = kPar par ∧ a_m a = par.length
theorem modify_last {α : Type} {l : List α} {x : α} {f : α → α} : (l ++ [x]).modify ((l ++ [x]).length - 1) f = l ++ [f x] := by
  have : (l ++ [x]).length - 1 = l.length := by simp
  rw [this]
  induction l with
  | nil => rfl
  | cons y r ih =>
    show (y :: (r ++ [x])).modify (r.length + 1) f = _
    rw [List.modify_succ_cons]
    have := ih (by simp)
    rw [this]; rfl
theorem HX_P {p : Nat} (h : HX a0 a) : HX a0 (aP a p) := h
theorem HX_par1 (h : HX a0 a) (hp : a_p a ≤ 800) (hz : zPar1 T a = .inr (y, b)) : HX a0 b ∧ a_p b ≤ 800 := by
  obtain ⟨x1, x2, x3, nm, gv, par, x4, x5, x6, x7⟩ := h
  unfold zPar1 at hz
  rw [pb_inr] at hz
  obtain ⟨t, a1, h1, hz⟩ := hz
  obtain ⟨d1, p1, e1⟩ := D_ty hp h1
  rw [it_l] at hz
  obtain ⟨-, hz⟩ := hz
  revert hz
  cases kFind (T.2.1 (a_p a1)) (a_k a1) with
  | some e => intro hz; cases hz
  | none =>
    intro hz
    have hz : (if (((a_q a1).getLast?.map (fun q => q.2.2.1.length)).getD 0) = 4 then (Sum.inl (5, a_p a1) : zR) else pb (zN (zKnow (T.2.1 (a_p a1)) t (qLast a1 (fun q => (q.1, q.2.1, q.2.2.1 ++ [t], q.2.2.2))))) (fun _ a2 => .inr (0, a2))) = .inr (y, b) := hz
    rw [it_r, pb_inr] at hz
    obtain ⟨c4, _, a2, h2, hz⟩ := hz
    obtain ⟨n2, e2⟩ := zN_inr.mp h2
    cases e2
    cases hz
    have n2 : a_p a1 ≠ 800 := n2
    have hp1 := d1.2.1
    have q1 : a_q a1 = a_q a0 ++ [(nm, gv, par, zL a0)] := by rw [e1]; exact x4
    rw [q1] at c4
    have c4 : par.length ≠ 4 := by
      intro z; apply c4; simp [z]
    refine ⟨⟨by rw [e1]; exact x1, by rw [e1]; exact x2, by rw [e1]; exact x3, nm, gv, par ++ [t], ?_, by rw [List.length_append]; show par.length + 1 ≤ 4; omega, ?_, ?_⟩, by show a_p a1 + 1 ≤ 800; omega⟩
    · show (a_q a1).modify ((a_q a1).length - 1) _ = _
      rw [q1, modify_last]
    · show (a_k a1 ++ [(T.2.1 (a_p a1), t, a_m a1)]).map _ = _
      rw [List.map_append, kPar_app, ← x6, ← x7, e1]; rfl
    · show a_m a1 + 1 = _
      rw [List.length_append, ← x7, e1]; rfl
theorem HX_pars : ∀ (f : Nat) (a : zA) (y : Int32) (b : zA), HX a0 a → a_p a ≤ 800 → zPars T f a = .inr (y, b) → HX a0 b ∧ a_p b ≤ 800
  | 0, _, _, _, _, _, h => by cases h
  | f + 1, a, y, b, hx, hp, h => by
    rw [zPars, pb_inr] at h
    obtain ⟨_, a1, h1, h⟩ := h
    obtain ⟨x1, p1⟩ := HX_par1 hx hp h1
    split at h
    · rw [pb_inr] at h
      obtain ⟨_, a2, h2, h⟩ := h
      obtain ⟨n2, e2⟩ := zN_inr.mp h2
      cases e2
      exact HX_pars f (aP a1 (a_p a1 + 1)) y b x1 (by show a_p a1 + 1 ≤ 800; omega) h
    · cases h; exact ⟨x1, p1⟩
theorem HX_head (ht : a_t a = []) (hp : a_p a ≤ 800) (h : zHead T a = .inr (y, b)) : HX a b ∧ a_p b ≤ 800 := by
  unfold zHead at h
  rw [pb_inr] at h
  obtain ⟨_, a1, h1, h⟩ := h
  obtain ⟨-, n1, e1⟩ := zMust_inr.mp h1
  cases e1
  rw [pb_inr] at h
  obtain ⟨_, a2, h2, h⟩ := h
  unfold zPNm at h2
  rw [it_l, it_l, it_r, pb_inr] at h2
  obtain ⟨-, -, -, _, a2', h2, h2'⟩ := h2
  obtain ⟨n2, e2⟩ := zN_inr.mp h2
  cases e2
  cases h2'
  have n2 : a_p a + 1 ≠ 800 := n2
  rw [pb_inr] at h
  obtain ⟨_, a3, h3, h⟩ := h
  obtain ⟨-, n3, e3⟩ := zMust_inr.mp h3
  cases e3
  have n3 : a_p a + 1 + 1 ≠ 800 := n3
  rw [pb_inr] at h
  obtain ⟨_, a4, h4, h⟩ := h
  have k4 : HX a a4 ∧ a_p a4 ≤ 800 := by
    split at h4
    · cases h4
      exact ⟨⟨rfl, rfl, ht, _, _, [], rfl, Nat.zero_le _, rfl, rfl⟩, by show a_p a + 1 + 1 + 1 ≤ 800; omega⟩
    · refine (fun hx hq => HX_pars 801 _ _ a4 hx hq h4) ?_ ?_
      · exact ⟨rfl, rfl, ht, _, _, [], rfl, Nat.zero_le _, rfl, rfl⟩
      · show a_p a + 1 + 1 + 1 ≤ 800
        omega
  rw [pb_inr] at h
  obtain ⟨_, a5, h5, h⟩ := h
  obtain ⟨-, n5, e5⟩ := zMust_inr.mp h5
  cases e5
  obtain ⟨k4, p4⟩ := k4
  have n5 : a_p a4 ≠ 800 := n5
  unfold zGiv at h
  split at h
  · rw [pb_inr] at h
    obtain ⟨_, a6, h6, h⟩ := h
    obtain ⟨n6, e6⟩ := zN_inr.mp h6
    cases e6
    have n6 : a_p a4 + 1 ≠ 800 := n6
    rw [pb_inr] at h
    obtain ⟨t, a7, h7, h⟩ := h
    obtain ⟨d7, p7, e7⟩ := D_ty (by show a_p a4 + 1 + 1 ≤ 800; omega) h7
    cases h
    obtain ⟨x1, x2, x3, nm, gv, par, x4, x5, x6, x7⟩ := k4
    refine ⟨⟨by rw [e7]; exact x1, by rw [e7]; exact x2, by rw [e7]; exact x3, nm, t, par, ?_, x5, by rw [e7]; exact x6, by rw [e7]; exact x7⟩, d7.2.1⟩
    show (a_q a7).modify ((a_q a7).length - 1) _ = _
    have q7 : a_q a7 = a_q a ++ [(nm, gv, par, zL a)] := by rw [e7]; exact x4
    rw [q7, modify_last]
  · cases h
    exact ⟨k4, by show a_p a4 + 1 ≤ 800; omega⟩
/-- THE TEXT IS WELL-TYPED -/
def TX (a : zA) : Prop := WT (a_i a) (a_q a) (a_c a) none [] ∧ a_t a = [] ∧ CTL a ∧ (∀ q ∈ a_q a, q.2.2.1.length ≤ 4) ∧ ∀ (i : Nat) (p : zP), (a_q a)[i]? = some p → Lands (a_i a) none p.2.2.2 ([], kPar p.2.2.1, p.2.1, [])
theorem G_proc (hT : TK T N) (hi : TI a) (hp : a_p a ≤ 800) (hx : TX a) (h : zProc T a = .inr (y, b)) : TX b := by
  obtain ⟨x1, x2, x3, x4, x5⟩ := hx
  unfold zProc at h
  rw [pb_inr] at h
  obtain ⟨_, a8, h8, h⟩ := h
  obtain ⟨hH, -, -⟩ := Head_H hT hi hp h8
  obtain ⟨⟨k1, k2, k3, nm, gv, par, k4, k5, k6, k7⟩, p8⟩ := HX_head x2 hp h8
  rw [pb_inr] at h
  obtain ⟨_, a9, h9, h⟩ := h
  cases h
  have i8 := hH.1
  have hh8 : a_h a8 = [] := hH.2.2.2.2.2.1
  have g8 : gNow a8 = ([], kPar par, gv, []) := by
    unfold gNow; rw [k3, k6, k4, hh8]; simp
  have s8 : HSt (aB a8 (a_b a8 + 1)) := by
    refine ⟨QB_k ⟨?_, hH.2.2.2.1⟩ i8, k3, ?_, ?_, i8, p8⟩
    · show ∀ q ∈ a_q a8, _
      rw [k4]
      intro q hq
      rcases List.mem_append.mp hq with z | z
      · exact x4 q z
      · rw [List.mem_singleton.mp z]; exact k5
    · show (a_k a8).Pairwise _
      have := kPar_p (ts := par)
      rw [← k6, List.pairwise_map] at this
      exact this
    · show (a_c a8).length = pos vT (a_i a8) (zL a8)
      unfold zL; rw [k1, k2]; exact x3
  have w8 : WTa [] (aB a8 (a_b a8 + 1)) := by
    refine ⟨?_, ?_, ?_⟩
    · show WT (a_i a8) (a_q a8) (a_c a8) (some (gNow a8)) []
      rw [k1, k2, k4]
      refine WT_ext x1 ⟨fun j g z => Lands_n z, fun j e z => ⟨e, z, rfl, rfl, fun _ => rfl⟩, fun q p z => ?_, fun k e t _ _ _ ht => ht⟩
      rw [List.getElem?_append_left (List.getElem?_eq_some_iff.mp z).1]; exact z
    · intro j H hj
      have hj : a_h a8 = j :: H := hj
      rw [hh8] at hj; cases hj
    · show ∀ x ∈ (gNow a8).2.1, x.1 < 24
      rw [g8]; intro x hx; have := kPar_lt x hx; omega
  obtain ⟨d9, i9, k9⟩ := D_blk (PT_ty hT) 9 _ _ a9 s8.2.2.2.2.2 s8.2.2.2.2.1 h9
  have s9 := G_blk hT 9 _ _ a9 s8 h9
  obtain ⟨w9, m9⟩ := s9.1 [] (fun k hk => by cases hk) w8
  have q9 : a_q a9 = a_q a8 := d9.2.2.2.2.2.2.1
  have E : Ext [] (a_i a9) (a_q a9) (a_c a9) (some (gNow a9)) (a_i a9 ++ [(3, 0, 0, -1, 0, gNow a9)]) (a_q a9) (a_c a9) none := Ext_app (show (3 : Nat) ≠ 2 by decide) rfl
  refine ⟨?_, ?_, CTL_E (a := a9) s9.2.2.2 (by decide), ?_, fun i p hi => ?_⟩
  · show WT (a_i a9 ++ [(3, 0, 0, -1, 0, gNow a9)]) (a_q a9) (a_c a9) none []
    exact WT_app w9.1 E ⟨by show (a_t a9).length ≤ 80; rw [s9.2.1]; exact Nat.zero_le _, w9.2.2, hOk_e (E := E) w9.2.1, s9.2.1, fun z => absurd z (by show ¬ falls 3 = true; decide)⟩ (fun _ => trivial)
  · show (a_t a9).drop 0 = []
    rw [s9.2.1]; rfl
  · show ∀ q ∈ a_q a9, _
    rw [q9]; exact s8.1.1
  · have hi : (a_q a9)[i]? = some p := hi
    rw [q9, k4] at hi
    show Lands (a_i a9 ++ [(3, 0, 0, -1, 0, gNow a9)]) none _ _
    refine E.1 _ _ (m9 _ _ ?_)
    show Lands (a_i a8) (some (gNow a8)) _ _
    rcases Nat.lt_or_ge i (a_q a).length with z | z
    · rw [List.getElem?_append_left z] at hi
      rw [k1]
      exact Lands_n (x5 i p hi)
    · have hl := (List.getElem?_eq_some_iff.mp hi).1
      rw [List.length_append] at hl
      have hl : i < (a_q a).length + 1 := hl
      have : i = (a_q a).length := by omega
      subst this
      have hi : some (nm, gv, par, zL a) = some p := by rw [← hi]; simp
      cases hi
      refine Or.inr ⟨by rw [k1]; rfl, _, rfl, ?_⟩
      rw [g8]; exact gFits.refl _
theorem G_text (hT : TK T N) : ∀ (f : Nat) (a b : zA) (y : Int32), TI a → a_p a ≤ 800 → TX a → zText T f a = .inr (y, b) → TX b
  | 0, _, _, _, _, _, _, h => by cases h
  | f + 1, a, b, y, hi, hp, hx, h => by
    rw [zText, pb_inr] at h
    obtain ⟨_, a1, h1, h⟩ := h
    obtain ⟨i1, -, l1⟩ := Proc_T hT hi hp h1
    have x1 := G_proc hT hi hp hx h1
    split at h
    · cases h; exact x1
    · exact G_text hT f a1 b y i1 l1 x1 h
theorem TX_0 : TX zA0 := ⟨fun k e hk => (by cases hk), rfl, rfl, fun q hq => (by cases hq), fun i p hi => (by cases hi)⟩
end
