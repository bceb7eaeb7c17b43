section
/-! A STEP KEEPS WHAT HOLDS: the common ways -/
variable {W W' : zW} {t u c v why : Int32} {S ops : List Int32} {x : zTx} {f g : zFr} {r F F' : List zFr} {e : zI} {fu q0 : Nat}
/-- the proc at the bottom -/
def botQ (F : List zFr) : Option Nat := F.getLast?.map (·.1)
theorem botQ_hd (h : g.1 = f.1) : botQ (g :: r) = botQ (f :: r) := by
  unfold botQ
  cases r with
  | nil => show some g.1 = some f.1; rw [h]
  | cons a r => rw [List.getLast?_cons_cons, List.getLast?_cons_cons]
theorem botQ_push : botQ (g :: f :: r) = botQ (f :: r) := by
  unfold botQ; rw [List.getLast?_cons_cons]
theorem botQ_unw {l : List zI} : ∀ (F F' : List zFr) (s : Nat), unw l v s F = some F' → botQ F' = botQ F
  | [], _, _, h => by cases h
  | f :: r, F', s, h => by
    rw [unw] at h
    split at h
    · split at h
      · cases h; exact botQ_hd rfl
      · cases h
    · rw [botQ_unw r F' 1 h]
      cases r with
      | nil => cases h
      | cons a r => exact botQ_push.symm
/-- what holds of a step's end -/
def MOk (x : zTx) (W : zW) (q0 : Nat) (z : zMR) : Prop := match z with
  | .inl y => WLe W y.1 ∧ WW y.1 ∧ FsOk x y.1 none y.2.1 ∧ y.2.1.length ≤ 15 ∧ botQ y.2.1 = some q0
  | .inr z => WLe W z.2.2.2.1 ∧ WW z.2.2.2.1 ∧ (∃ n, n < 10 ∧ z.1 = Int32.ofNat n) ∧ (z.1 = 0 → ∃ p, x.2.2[q0]? = some p ∧ VT z.2.2.2.1 p.2.1 z.2.1)
/-- before an item -/
def MC (x : zTx) (W : zW) (q0 : Nat) (f : zFr) (r : List zFr) (e : zI) : Prop := WTx x ∧ WW W ∧ FsOk x W none (f :: r) ∧ x.1[f.2.1]? = some e ∧ (f :: r).length ≤ 15 ∧ botQ (f :: r) = some q0
theorem go_M (h : MC x W q0 f r e) (hW : WW W') (hf : falls e.1 = true) (ho : e.1 ≠ 6 ∧ e.1 ≠ 2 ∧ e.1 ≠ 33 ∧ e.1 ≠ 34) (hle : WLe W W') (hS : VTs W' (effS x.2.2 e.1 e.2.1 e.2.2.2.2.1 (i_g e).1) ops) : MOk x W q0 (goM W' f r fu ops) := by
  obtain ⟨hx, -, hF, hi, hl, hb⟩ := h
  exact ⟨hle, hW, go_ok hx hF hi hf ho hle hS, hl, by rw [← hb]; exact botQ_hd rfl⟩
theorem end_M {n : Nat} (h : MC x W q0 f r e) (h0 : n ≠ 0) (h10 : n < 10) (hw : why = Int32.ofNat n) : MOk x W q0 (endM why e W fu v) := by
  refine ⟨WLe.refl W, h.2.1, ⟨n, h10, hw⟩, fun z => ?_⟩
  have z : why = 0 := z
  rw [hw, show (0 : Int32) = Int32.ofNat 0 from rfl, i_eq (by omega) (by omega)] at z
  exact absurd z h0
theorem WW_f {n : Nat} (h : WW W) (hn : n ≤ 600) : WW (wF W n) := WW_o (W' := wF W n) h rfl rfl rfl (fun k hk => (h.2.2.2.1 k hk).2) (h.2.2.2.2) h.1.2.2.2.1 hn h.1.2.2.2.2.2
theorem WLe_f {n : Nat} : WLe W (wF W n) := WLe_o rfl rfl
theorem raise_M {n : Nat} (h : MC x W q0 f r e) (h0 : n ≠ 0) (h10 : n < 10) (hw : why = Int32.ofNat n) : MOk x W q0 (raiseM x.1 W (f :: r) fu e why v) := by
  obtain ⟨hx, hW, hF, hi, hl, hb⟩ := h
  unfold raiseM
  by_cases q : w_f W = 600
  · rw [if_pos q]
    exact end_M (n := 8) ⟨hx, hW, hF, hi, hl, hb⟩ (by decide) (by decide) rfl
  · rw [if_neg q]
    have hw' : WW (wF W (w_f W + 1)) := WW_f hW (by have := hW.1.2.2.2.2.1; omega)
    cases hu : unw x.1 v 0 (f :: r) with
    | none =>
      refine ⟨WLe_f, hw', ⟨n, h10, hw⟩, fun z => ?_⟩
      have z : why = 0 := z
      rw [hw, show (0 : Int32) = Int32.ofNat 0 from rfl, i_eq (by omega) (by omega)] at z
      exact absurd z h0
    | some F' =>
      obtain ⟨k1, k2⟩ := FsOk_unw hx (f :: r) F' 0 none (Or.inl ⟨rfl, rfl⟩) hF hu
      exact ⟨WLe_f, hw', FsOk_le WLe_f _ _ k1, Nat.le_trans k2 hl, by rw [← hb]; exact botQ_unw _ _ _ hu⟩
theorem leave_M (h : MC x W q0 f r e) (hv : VT W (i_g e).2.2.1 v) : MOk x W q0 (leaveM W r fu v) := by
  obtain ⟨hx, hW, hF, hi, hl, hb⟩ := h
  obtain ⟨-, -, ⟨p, c3, c5⟩, c4⟩ := cur_ok hF hi
  cases r with
  | nil =>
    refine ⟨WLe.refl W, hW, ⟨0, by decide, rfl⟩, fun _ => ⟨p, ?_, ?_⟩⟩
    · have hb : some f.1 = some q0 := hb
      cases hb; exact c3
    · rw [c5]; exact hv
  | cons g r' => exact ⟨WLe.refl W, hW, FsOk_back c4 hv, by have := hl; simp at this ⊢; omega, by rw [← hb, botQ_push]; exact botQ_hd rfl⟩
theorem jump_M {j : Nat} {gh : zG} (h : MC x W q0 f r e) (hL : Lands x.1 none j gh) (hS : VTs W gh.1 ops) (h2 : ∀ y ∈ gh.2.1, y ∈ (i_g e).2.1) (h3 : gh.2.2.1 = (i_g e).2.2.1) : MOk x W q0 (.inl (W, (f.1, j, f.2.2.1, ops) :: r, fu)) := by
  obtain ⟨hx, hW, hF, hi, hl, hb⟩ := h
  obtain ⟨c1, c2, c3, c4⟩ := cur_ok hF hi
  exact ⟨WLe.refl W, hW, FsOk_land hL hS (fun y hy => c2 y (h2 y hy)) (by rw [h3]; exact c3) (by rw [h3]; exact c4), hl, by rw [← hb]; exact botQ_hd rfl⟩
end
