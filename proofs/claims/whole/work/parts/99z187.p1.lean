section
/-! A TICK, PURELY -/
variable {X : Nat × (Nat → Int32)} {d : Nat} {s σ σ' τ : sm_S} {W W' : zW} {B : Nat × Nat} {n i k m j t u : Nat} {c v a b : Int32} {e e' : zTn}
def setN (W : zW) (t : Nat) (e : zTn) : zW := wTn W ((w_n W).set t e)
/-- not above the second, not below 0 -/
def clp (q m : Int32) : Int32 := if 0 < (if m < q then m else q) then (if m < q then m else q) else 0
def spdF (W : zW) (n : Nat) : Int32 := if sumF W 2 (rowAt W n).2 0 < 1 then 0 else clp (sumF W 4 (rowAt W n).2 0 / sumF W 2 (rowAt W n).2 0) (sumF W 3 (rowAt W n).2 0 / 5 + 1)
def burnT (W : zW) (e : zTn) : zW := if 0 < spdF W e.1 then burnW W (rowAt W e.1).2 else W
def moveT (W : zW) (t : Nat) (e : zTn) : Nat × zW :=
  if 0 < e.2.2.1 - spdF W e.1 then (0, setN (burnT W e) t (e.1, e.2.1, e.2.2.1 - spdF W e.1, spdF W e.1, e.2.2.2.2))
  else if mayLay (burnT W e) e.2.1 (rfR e.1) then (1, wTk (setN (burnT W e) t (e.1, e.2.1, 0, spdF W e.1, 1)) (fset (w_t (burnT W e)) e.2.1 (rfR e.1)))
  else (1, setN (burnT W e) t (e.1, e.2.1, 0, spdF W e.1, 2))
def ticT : Nat → Nat → zW → Nat × zW
  | 0, _, W => (0, W)
  | m + 1, t, W => match (w_n W)[t]? with
    | none => (0, W)
    | some e => if e.2.2.2.2 = 0 then ((moveT W t e).1 + (ticT m (t + 1) (moveT W t e).2).1, (ticT m (t + 1) (moveT W t e).2).2) else ticT m (t + 1) W
def tickN : Nat → zW → Nat × zW
  | 0, W => (0, W)
  | n + 1, W => ((ticT (w_n W).length 0 (wC W (w_c W + 1))).1 + (tickN n (ticT (w_n W).length 0 (wC W (w_c W + 1))).2).1, (tickN n (ticT (w_n W).length 0 (wC W (w_c W + 1))).2).2)
theorem burn1_n : w_n (burn1 W c) = w_n W ∧ w_t (burn1 W c) = w_t W ∧ w_s (burn1 W c) = w_s W := by
  unfold burn1; split
  · exact ⟨rfl, rfl, rfl⟩
  · split <;> exact ⟨rfl, rfl, rfl⟩
theorem burnW_f : ∀ (l : List Int32) (W : zW), w_n (burnW W l) = w_n W ∧ w_t (burnW W l) = w_t W ∧ w_s (burnW W l) = w_s W ∧ w_r (burnW W l) = w_r W
  | [], W => ⟨rfl, rfl, rfl, rfl⟩
  | c :: l, W => by
    obtain ⟨h1, h2, h3, h4⟩ := burnW_f l (burn1 W c)
    obtain ⟨g1, g2, g3⟩ := burn1_n (W := W) (c := c)
    exact ⟨h1.trans g1, h2.trans g2, h3.trans g3, h4.trans burn1_l⟩
theorem WW_burnW : ∀ (l : List Int32) (W : zW), WW W → (∀ c ∈ l, ∃ k, cOk W k c) → WW (burnW W l) ∧ WLe W (burnW W l)
  | [], W, h, _ => ⟨h, WLe.refl W⟩
  | c :: l, W, h, hc => by
    obtain ⟨k, hk⟩ := hc c List.mem_cons_self
    have w1 := WW_burn1 h hk
    have l1 : WLe W (burn1 W c) := WLe_burn1
    obtain ⟨h1, h2⟩ := WW_burnW l (burn1 W c) w1 (fun c' hc' => by
      obtain ⟨k', hk'⟩ := hc c' (List.mem_cons_of_mem _ hc')
      exact ⟨k', cOk_le l1 hk'⟩)
    exact ⟨h1, l1.trans h2⟩
theorem burnT_ok (hW : WW W) (hn : e.1 < (w_r W).length) : WW (burnT W e) ∧ WLe W (burnT W e) ∧ w_n (burnT W e) = w_n W ∧ w_t (burnT W e) = w_t W ∧ w_s (burnT W e) = w_s W ∧ w_r (burnT W e) = w_r W := by
  unfold burnT
  split
  · obtain ⟨k, -, -, -, hc⟩ := hW.2.2.1 _ hn
    obtain ⟨h1, h2⟩ := WW_burnW (rowAt W e.1).2 W hW (fun c hc' => ⟨k, hc c hc'⟩)
    exact ⟨h1, h2, burnW_f _ _⟩
  · exact ⟨hW, WLe.refl W, rfl, rfl, rfl, rfl⟩
theorem setN_at (ht : t < (w_n W).length) : (w_n (setN W t e))[u]? = if t = u then some e else (w_n W)[u]? := by
  show ((w_n W).set t e)[u]? = _
  by_cases z : t = u
  · subst z; rw [if_pos rfl, List.getElem?_set_self ht]
  · rw [if_neg z, List.getElem?_set_ne z]
theorem WW_setN (hW : WW W) (he : (w_n W)[t]? = some e) (h1 : e'.1 = e.1) (h2 : e'.2.1 = e.2.1) : WW (setN W t e') := by
  refine WW_o (W' := setN W t e') hW rfl rfl rfl (fun k hk => (hW.2.2.2.1 k hk).2) (fun q hq => ?_) ?_ hW.1.2.2.2.2.1 hW.1.2.2.2.2.2
  · have hq : q ∈ (w_n W).set t e' := hq
    rcases List.mem_or_eq_of_mem_set hq with z | z
    · exact hW.2.2.2.2 q z
    · rw [z, h1, h2]; exact hW.2.2.2.2 e (List.mem_of_getElem? he)
  · show ((w_n W).set t e').length ≤ 10
    rw [List.length_set]; exact hW.1.2.2.2.1
theorem VT_train (hW : WW W) (he : e ∈ w_n W) : VT W 18 (rfR e.1) := by
  obtain ⟨h1, -, k, k13, hk⟩ := hW.2.2.2.2 e he
  refine VT_mkr h1 (by omega) hk ?_
  have : ∀ k, k < 13 → cBel (Int32.ofNat (18 + k)) 18 = 1 := by decide +kernel
  exact this k k13
theorem WW_tk (hW : WW W) (hc : VT W 18 c) : WW (wTk W (fset (w_t W) k c)) := by
  refine WW_o (W' := wTk W (fset (w_t W) k c)) hW rfl rfl rfl (fun j hj => ?_) hW.2.2.2.2 hW.1.2.2.2.1 hW.1.2.2.2.2.1 hW.1.2.2.2.2.2
  show VT W 18 (fset (w_t W) k c j)
  unfold fset
  by_cases q : j = k
  · rw [if_pos q]; exact hc
  · rw [if_neg q]; exact (hW.2.2.2.1 j hj).2
theorem moveT_ok (hW : WW W) (he : (w_n W)[t]? = some e) : WW (moveT W t e).2 ∧ (w_n (moveT W t e).2).length = (w_n W).length ∧ (moveT W t e).1 ≤ 1 := by
  obtain ⟨h1, h2, h3⟩ := hW.2.2.2.2 e (List.mem_of_getElem? he)
  obtain ⟨b1, b2, b3, b4, b5, b6⟩ := burnT_ok (e := e) hW h1
  have he' : (w_n (burnT W e))[t]? = some e := by rw [b3]; exact he
  unfold moveT
  split
  · exact ⟨WW_setN b1 he' rfl rfl, by show ((w_n (burnT W e)).set t _).length = _; rw [List.length_set, b3], Nat.zero_le _⟩
  · split
    · refine ⟨?_, by show ((w_n (burnT W e)).set t _).length = _; rw [List.length_set, b3], Nat.le_refl _⟩
      have w := WW_setN (e' := (e.1, e.2.1, 0, spdF W e.1, 1)) b1 he' rfl rfl
      exact WW_tk (W := setN (burnT W e) t (e.1, e.2.1, 0, spdF W e.1, 1)) w (VT_le (WLe_o (W := burnT W e) rfl rfl) (VT_le b2 (VT_train hW (List.mem_of_getElem? he))))
    · exact ⟨WW_setN b1 he' rfl rfl, by show ((w_n (burnT W e)).set t _).length = _; rw [List.length_set, b3], Nat.le_refl _⟩
theorem burnW_n (x : List zTn) : ∀ (l : List Int32) (W : zW), burnW (wTn W x) l = wTn (burnW W l) x
  | [], W => rfl
  | c :: l, W => by
    have e1 : burn1 (wTn W x) c = wTn (burn1 W c) x := by
      unfold burn1
      show (if c = 0 then wTn W x else if 0 < (vehAt W (ixV c)).2 8 then setV (wTn W x) (ixV c) 8 ((vehAt W (ixV c)).2 8 - 1) else wTn W x) = _
      by_cases z : c = 0
      · rw [if_pos z, if_pos z]
      · rw [if_neg z, if_neg z]
        by_cases y : 0 < (vehAt W (ixV c)).2 8
        · rw [if_pos y, if_pos y]; rfl
        · rw [if_neg y, if_neg y]
    show burnW (burn1 (wTn W x) c) l = wTn (burnW (burn1 W c) l) x
    rw [e1]; exact burnW_n x l (burn1 W c)
theorem burnW_setN (l : List Int32) : burnW (setN W t e') l = setN (burnW W l) t e' := by
  unfold setN
  rw [burnW_n, (burnW_f l W).1]
theorem WW_c (hW : WW W) : WW (wC W c) := WW_o (W' := wC W c) hW rfl rfl rfl (fun k hk => (hW.2.2.2.1 k hk).2) hW.2.2.2.2 hW.1.2.2.2.1 hW.1.2.2.2.2.1 hW.1.2.2.2.2.2
theorem ticT_ok : ∀ (m t : Nat) (W : zW), WW W → t + m = (w_n W).length → WW (ticT m t W).2 ∧ (w_n (ticT m t W).2).length = (w_n W).length
  | 0, _, W, h, _ => ⟨h, rfl⟩
  | m + 1, t, W, h, hm => by
    rw [ticT, List.getElem?_eq_getElem (by omega)]
    dsimp only
    split
    · obtain ⟨h1, h2, -⟩ := moveT_ok (t := t) h (List.getElem?_eq_getElem (by omega))
      obtain ⟨g1, g2⟩ := ticT_ok m (t + 1) _ h1 (by rw [h2]; omega)
      exact ⟨g1, g2.trans h2⟩
    · exact ticT_ok m (t + 1) W h (by omega)
theorem tickN_ok : ∀ (n : Nat) (W : zW), WW W → WW (tickN n W).2
  | 0, W, h => h
  | n + 1, W, h => tickN_ok n _ (ticT_ok (w_n W).length 0 (wC W (w_c W + 1)) (WW_c h) (Nat.zero_add _)).1
end
