section
variable {E : sm_G} {X : Nat × (Nat → Int32)} {w : Bool} {p : Program} {l : Launch} {e : Env} {R : Room} {s : State} {m : MethodId} {args : Array Value} {below : List Frame} {meth : Method} {c : Code} {mn : Nat} {C : sm_C} {r : sm_O × sm_S} {c0 s0 : Nat} {Q : State → Prop} {n pc : Nat} {a : Nat × Nat × Nat × Nat} {L S : List sm_V} {σ : sm_S} {hx : sm_S → sm_R} {H : Heap} {locs : List Loc} {ls : Array Slot}
theorem sm_take_s : ∀ (n : Nat) (acc S As S' : List sm_V), sm_take n acc S = some (As, S') → acc.reverse ++ S = As.reverse ++ S' ∧ As.length = n + acc.length
  | 0, acc, S, As, S', h => by
    have h : some (acc, S) = some (As, S') := by
      cases S <;> exact h
    cases h
    exact ⟨rfl, by omega⟩
  | n + 1, acc, [], As, S', h => by cases h
  | n + 1, acc, v :: S, As, S', h => by
    have h : sm_take n (v :: acc) S = some (As, S') := h
    obtain ⟨h1, h2⟩ := sm_take_s n (v :: acc) S As S' h
    refine ⟨?_, by simp at h2; omega⟩
    rw [← h1]
    simp
theorem sm_cl_s {nx : List sm_V → sm_S → sm_R} (h : sm_cl C a hx S σ nx = some r) : ∃ As S' o σ', S = As.reverse ++ S' ∧ As.length = a.2.1 ∧ sm_cat S' ≤ 8 ∧ C a.1 As σ = some (o, σ') ∧ (a.2.2.2 ≠ 0 → ∃ i As', As = vP (a.2.2.2, i) :: As') ∧ (∀ v, o = some v → nx (v.toList ++ S') σ' = some r) ∧ (o = none → hx σ' = some r) := by
  unfold sm_cl at h
  cases ht : sm_take a.2.1 [] S with
  | none => rw [ht] at h; cases h
  | some q =>
    obtain ⟨As, S'⟩ := q
    obtain ⟨t1, t2⟩ := sm_take_s _ _ _ _ _ ht
    rw [ht] at h
    dsimp only at h
    by_cases hcat : sm_cat S' ≤ 8
    · rw [if_pos hcat] at h
      have go : ∀ {g : sm_R}, (match a.2.2.1 with
        | 0 => sm_bV (C a.1 As σ) hx fun s => nx S' s
        | 1 => sm_bI (C a.1 As σ) hx fun x s => nx (vI x :: S') s
        | 2 => sm_bL (C a.1 As σ) hx fun x s => nx (vL x :: S') s
        | _ => sm_bP (C a.1 As σ) hx fun x s => nx (vP x :: S') s) = some r → ∃ o σ', C a.1 As σ = some (o, σ') ∧ (∀ v, o = some v → nx (v.toList ++ S') σ' = some r) ∧ (o = none → hx σ' = some r) := by
        intro _ hg
        rcases hc : C a.1 As σ with _ | ⟨_ | _ | v, σ'⟩
        · rw [hc] at hg
          split at hg <;> cases hg
        · rw [hc] at hg
          refine ⟨none, σ', rfl, fun v hv => (by cases hv), fun _ => ?_⟩
          split at hg <;> exact hg
        · rw [hc] at hg
          refine ⟨some none, σ', rfl, fun v hv => ?_, fun hv => by cases hv⟩
          cases hv
          split at hg
          · exact hg
          all_goals cases hg
        · rw [hc] at hg
          refine ⟨some (some v), σ', rfl, fun u hu => ?_, fun hv => by cases hv⟩
          cases hu
          rcases v with x | x | x | x <;> split at hg <;> first | exact hg | cases hg
      split at h
      · next h0 =>
        obtain ⟨o, σ', g1, g2, g3⟩ := go (g := none) h
        exact ⟨As, S', o, σ', t1, t2, hcat, g1, fun z => absurd h0 z, g2, g3⟩
      · next t h0 =>
        split at h
        · next q As' =>
          by_cases hq : q.1 = t + 1
          · rw [if_pos hq] at h
            obtain ⟨o, σ', g1, g2, g3⟩ := go (g := none) h
            exact ⟨_, S', o, σ', t1, t2, hcat, g1, fun _ => ⟨q.2, As', by rw [h0]; show _ = vP (t + 1, q.2) :: As'; rw [← hq]⟩, g2, g3⟩
          · rw [if_neg hq] at h; cases h
        · cases h
    · rw [if_neg hcat] at h; cases h
end
