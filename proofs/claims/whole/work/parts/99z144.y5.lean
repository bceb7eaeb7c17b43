section
/-! WHAT HOLDS OF THE WORLD AND OF THE FRAMES -/
variable {W W' : zW} {t u c : Int32} {S ops : List Int32} {x : zTx} {f : zFr} {r : List zFr}
/-- what is at a place of a row of kind k -/
def cOk (W : zW) (k : Nat) (c : Int32) : Prop := c = 0 ∨ ∃ v j, v < (w_v W).length ∧ c = rfV v ∧ j < 13 ∧ (vehAt W v).1 = Int32.ofNat j ∧ cBel (Int32.ofNat j) (Int32.ofNat k) = 1
def WW (W : zW) : Prop :=
  ((w_v W).length ≤ 300 ∧ (w_r W).length ≤ 200 ∧ nSpots W ≤ 2000 ∧ (w_n W).length ≤ 10 ∧ w_f W ≤ 600 ∧ (w_d W).length ≤ 300) ∧
  (∀ v, v < (w_v W).length → (∃ k, k < 13 ∧ (vehAt W v).1 = Int32.ofNat k ∧ (¬ cBel (Int32.ofNat k) 17 = 1 → (vehAt W v).2 8 = 0)) ∧ VT W 0 ((vehAt W v).2 1)) ∧
  (∀ n, n < (w_r W).length → ∃ k, k < 18 ∧ (rowAt W n).1 = Int32.ofNat k ∧ (rowAt W n).2.length ≤ 40 ∧ ∀ c ∈ (rowAt W n).2, cOk W k c) ∧
  (∀ k, k < 8 → (∃ s, s < 18 ∧ w_s W k = Int32.ofNat s) ∧ VT W 18 (w_t W k)) ∧
  (∀ e ∈ w_n W, e.1 < (w_r W).length ∧ e.2.1 < 8 ∧ ∃ k, k < 13 ∧ (rowAt W e.1).1 = Int32.ofNat k)
/-- what a proc gives -/
def pTy (t : Int32) : Prop := t = 36 ∨ t = 38 ∨ ∃ n, n < 36 ∧ t = Int32.ofNat n
/-- a text that was read -/
def WTx (x : zTx) : Prop := WT x.1 x.2.2 x.2.1 none [] ∧ (∀ q ∈ x.2.2, q.2.2.1.length ≤ 4) ∧ (∀ (i : Nat) (p : zP), x.2.2[i]? = some p → Lands x.1 none p.2.2.2 ([], kPar p.2.2.1, p.2.1, [])) ∧ x.1.length ≤ 800 ∧ x.2.2.length ≤ 12 ∧ x.2.1.length < 100 ∧ (∀ e ∈ x.1, (i_h e).length ≤ 8) ∧ (∀ q ∈ x.2.2, pTy q.2.1) ∧ ∀ e ∈ x.1, e.1 = 5 → e.2.2.2.2.1 ≠ 38
/-- the frames: o is what the frame above gives; none: the frame under way -/
def FsOk (x : zTx) (W : zW) : Option Int32 → List zFr → Prop
  | _, [] => True
  | o, f :: r => (∃ e S, x.1[f.2.1]? = some e ∧ e.1 ≠ 2 ∧ (match o with
      | none => (i_g e).1 = S
      | some ty => (i_g e).1 = ty :: S ∧ ∃ k e', f.2.1 = k + 1 ∧ x.1[k]? = some e' ∧ e'.1 = 27 ∧ i_h e' = i_h e) ∧ VTs W S f.2.2.2 ∧ (∀ y ∈ (i_g e).2.1, VT W y.2 (f.2.2.1 y.1)) ∧ (∃ p, x.2.2[f.1]? = some p ∧ p.2.1 = (i_g e).2.2.1) ∧ FsOk x W (some (i_g e).2.2.1) r)
theorem VTs_cons (h : VTs W S ops) (k : VT W t c) : VTs W (t :: S) (c :: ops) := by
  refine ⟨by simp [h.1], fun i t' c' h1 h2 => ?_⟩
  cases i with
  | zero => cases h1; cases h2; exact k
  | succ i => exact h.2 i t' c' h1 h2
theorem VTs_tail (h : VTs W (t :: S) ops) : ∃ c r, ops = c :: r ∧ VT W t c ∧ VTs W S r := by
  cases ops with
  | nil => exact absurd h.1 (by simp)
  | cons c r => exact ⟨c, r, rfl, h.2 0 t c rfl rfl, by have := h.1; simpa using this, fun i t' c' h1 h2 => h.2 (i + 1) t' c' h1 h2⟩
theorem VTs_nil : VTs W [] [] := ⟨rfl, fun i t c h => by cases h⟩
theorem FsOk_le (h : WLe W W') : ∀ (o : Option Int32) (F : List zFr), FsOk x W o F → FsOk x W' o F
  | _, [], _ => trivial
  | o, f :: r, ⟨e, S, h1, h2, h3, h4, h5, h6, h7⟩ => ⟨e, S, h1, h2, h3, VTs_le h h4, fun y hy => VT_le h (h5 y hy), h6, FsOk_le h _ r h7⟩
end
