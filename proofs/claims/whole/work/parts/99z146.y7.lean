section
/-! A FRAME GOES ON -/
variable {W W' : zW} {t u c v : Int32} {S ops : List Int32} {x : zTx} {f : zFr} {r F' : List zFr} {e : zI}
theorem cur_ok (hF : FsOk x W none (f :: r)) (hi : x.1[f.2.1]? = some e) : VTs W (i_g e).1 f.2.2.2 ∧ (∀ y ∈ (i_g e).2.1, VT W y.2 (f.2.2.1 y.1)) ∧ (∃ p, x.2.2[f.1]? = some p ∧ p.2.1 = (i_g e).2.2.1) ∧ FsOk x W (some (i_g e).2.2.1) r := by
  obtain ⟨e', S, h1, h2, h3, h4, h5, h6, h7⟩ := hF
  rw [hi] at h1
  cases h1
  have h3 : (i_g e).1 = S := h3
  rw [h3]
  exact ⟨h4, h5, h6, h7⟩
theorem wt_ok (hx : WTx x) (hi : x.1[f.2.1]? = some e) : tOk x.2.2 e ∧ (falls e.1 = true → Lands x.1 none (f.2.1 + 1) (gNx x.2.2 f.2.1 e)) ∧ jOk x.1 none x.2.1 f.2.1 e ∧ (i_g e).1.length ≤ 80 ∧ ∀ y ∈ (i_g e).2.1, y.1 < 24 := by
  obtain ⟨⟨b1, b2, b3, b4, b5⟩, j1⟩ := hx.1 _ e hi
  exact ⟨b4, b5, j1 (by simp), b1, b2⟩
theorem go_ok (hx : WTx x) (hF : FsOk x W none (f :: r)) (hi : x.1[f.2.1]? = some e) (hf : falls e.1 = true) (ho : e.1 ≠ 6 ∧ e.1 ≠ 2 ∧ e.1 ≠ 33 ∧ e.1 ≠ 34) (hle : WLe W W') (hS : VTs W' (effS x.2.2 e.1 e.2.1 e.2.2.2.2.1 (i_g e).1) ops) : FsOk x W' none ((f.1, f.2.1 + 1, f.2.2.1, ops) :: r) := by
  obtain ⟨c1, c2, c3, c4⟩ := cur_ok hF hi
  have hL := (wt_ok hx hi).2.1 hf
  obtain ⟨op, arg, tgt, pl, ty, g⟩ := e
  rw [gNx_d ho] at hL
  exact FsOk_land hL hS (fun y hy => VT_le hle (c2 y hy)) c3 (FsOk_le hle _ _ c4)
end
