section
/-! THE WORLD IS CHANGED -/
variable {W W' : zW} {t u c x : Int32} {v n i j f : Nat}
theorem getD_mod {α : Type} {l : List α} {d : α} {g : α → α} : (l.modify v g).getD n d = if v = n ∧ n < l.length then g (l.getD n d) else l.getD n d := by
  rw [List.getD_eq_getElem?_getD, List.getD_eq_getElem?_getD, List.getElem?_modify]
  rcases Nat.lt_or_ge n l.length with z | z
  · rw [List.getElem?_eq_getElem z]
    by_cases q : v = n
    · rw [if_pos ⟨q, z⟩, q]; simp
    · rw [if_neg (fun y => q y.1)]; simp [q]
  · rw [List.getElem?_eq_none z, if_neg (fun y => by omega)]; rfl
theorem vehAt_set : vehAt (setV W v f x) n = if v = n ∧ n < (w_v W).length then ((vehAt W n).1, fset (vehAt W n).2 f x) else vehAt W n := getD_mod
theorem rowAt_set : rowAt (setR W v i x) n = if v = n ∧ n < (w_r W).length then ((rowAt W n).1, (rowAt W n).2.set i x) else rowAt W n := getD_mod
theorem WLe_setV : WLe W (setV W v f x) := by
  refine ⟨by show _ ≤ ((w_v W).modify v _).length; rw [List.length_modify]; exact Nat.le_refl _, Nat.le_refl _, fun u hu => ?_, fun n hn => ⟨rfl, rfl⟩⟩
  rw [vehAt_set]; split <;> rfl
theorem WLe_setR : WLe W (setR W v i x) := by
  refine ⟨Nat.le_refl _, by show _ ≤ ((w_r W).modify v _).length; rw [List.length_modify]; exact Nat.le_refl _, fun u hu => rfl, fun n hn => ?_⟩
  rw [rowAt_set]
  split
  · exact ⟨rfl, List.length_set⟩
  · exact ⟨rfl, rfl⟩
theorem WLe_newV {e : zVh} : WLe W (wV W (w_v W ++ [e])) := by
  refine ⟨by show _ ≤ (w_v W ++ [e]).length; rw [List.length_append]; omega, Nat.le_refl _, fun u hu => ?_, fun n hn => ⟨rfl, rfl⟩⟩
  show ((w_v W ++ [e]).getD u _).1 = _
  rw [List.getD_eq_getElem?_getD, List.getElem?_append_left hu, ← List.getD_eq_getElem?_getD]; rfl
theorem WLe_newR {e : zRw} : WLe W (wR W (w_r W ++ [e])) := by
  refine ⟨Nat.le_refl _, by show _ ≤ (w_r W ++ [e]).length; rw [List.length_append]; omega, fun u hu => rfl, fun n hn => ?_⟩
  have : rowAt (wR W (w_r W ++ [e])) n = rowAt W n := by
    show (w_r W ++ [e]).getD n _ = _
    rw [List.getD_eq_getElem?_getD, List.getElem?_append_left hn, ← List.getD_eq_getElem?_getD]; rfl
  rw [this]; exact ⟨rfl, rfl⟩
/-- only clock, tracks, trains, faults, said differ -/
theorem WLe_o (h1 : w_v W' = w_v W) (h2 : w_r W' = w_r W) : WLe W W' := by
  refine ⟨by rw [h1]; exact Nat.le_refl _, by rw [h2]; exact Nat.le_refl _, fun u hu => by unfold vehAt; rw [h1], fun n hn => by unfold rowAt; rw [h2]; exact ⟨rfl, rfl⟩⟩
theorem cOk_le {k : Nat} (h : WLe W W') (hc : cOk W k c) : cOk W' k c := by
  rcases hc with q | ⟨v, j, h1, h2, h3, h4, h5⟩
  · exact Or.inl q
  · exact Or.inr ⟨v, j, Nat.lt_of_lt_of_le h1 h.1, h2, h3, (h.2.2.1 v h1).trans h4, h5⟩
end
