section
variable {Z : sm_T} {P : sm_P} {w : Bool} {C : sm_C} {m : Nat}
/-- one row of code, with other things behind it -/
theorem sm_at_mono {e : sm_E} {g g' : Nat → List sm_V → List sm_V → sm_S → sm_R} (h : ∀ pc L S s r, g pc L S s = some r → g' pc L S s = some r) {L S : List sm_V} {σ : sm_S} {r : sm_O × sm_S} (k : sm_at Z P w C m e g L S σ = some r) : sm_at Z P w C m e g' L S σ = some r := by
  unfold sm_at at k ⊢
  rcases sm_I_lin Z w C e.2.1 e.2.2.2.1 e.1 (sm_lv e L) S σ with ⟨r0, q⟩ | ⟨L1, S1, s1, q⟩ | ⟨t, L1, S1, s1, q⟩ | ⟨s1, q⟩ <;> dsimp only at q
  · rw [q] at k ⊢; exact k
  · rw [q] at k ⊢; exact h _ _ _ _ _ k
  · rw [q] at k ⊢; exact h _ _ _ _ _ k
  · rw [q] at k ⊢
    unfold sm_hx at k ⊢
    cases hh : P.2.2 m e.1 with
    | none => rw [hh] at k; exact k
    | some z => rw [hh] at k; exact h _ _ _ _ _ k
theorem sm_run_mono : ∀ (n : Nat) {pc : Nat} {L S : List sm_V} {σ : sm_S} {r : sm_O × sm_S}, sm_run Z P w C m n pc L S σ = some r → sm_run Z P w C m (n + 1) pc L S σ = some r
  | 0, _, _, _, _, _, h => by cases h
  | n + 1, pc, L, S, σ, r, h => by
    rw [sm_run] at h ⊢
    cases hf : sm_find pc (P.1 m) with
    | none => rw [hf] at h; cases h
    | some e =>
      rw [hf] at h
      exact sm_at_mono (fun _ _ _ _ _ q => sm_run_mono n q) h
theorem sm_run_le {n k : Nat} (hk : n ≤ k) {pc : Nat} {L S : List sm_V} {σ : sm_S} {r : sm_O × sm_S} (h : sm_run Z P w C m n pc L S σ = some r) : sm_run Z P w C m k pc L S σ = some r := by
  obtain ⟨d, rfl⟩ := Nat.exists_eq_add_of_le hk
  induction d with
  | zero => exact h
  | succ d ih => exact sm_run_mono _ (ih (Nat.le_add_right _ _))
/-- the limit of the runs -/
noncomputable def sm_go (Z : sm_T) (P : sm_P) (w : Bool) (C : sm_C) (m pc : Nat) (L S : List sm_V) (σ : sm_S) : sm_R := @dite _ (∃ n r, sm_run Z P w C m n pc L S σ = some r) (Classical.propDecidable _) (fun h => some (Classical.choose (Classical.choose_spec h))) (fun _ => none)
theorem sm_go_some {pc : Nat} {L S : List sm_V} {σ : sm_S} {r : sm_O × sm_S} : sm_go Z P w C m pc L S σ = some r ↔ ∃ n, sm_run Z P w C m n pc L S σ = some r := by
  unfold sm_go
  constructor
  · intro h
    split at h
    · rename_i q
      have e := Classical.choose_spec (Classical.choose_spec q)
      rw [Option.some.inj h] at e
      exact ⟨_, e⟩
    · cases h
  · rintro ⟨n, h⟩
    have q : ∃ n r, sm_run Z P w C m n pc L S σ = some r := ⟨n, r, h⟩
    rw [dif_pos q]
    have e := Classical.choose_spec (Classical.choose_spec q)
    have e1 := sm_run_le (Nat.le_max_left (Classical.choose q) n) e
    have e2 := sm_run_le (Nat.le_max_right (Classical.choose q) n) h
    rw [e1] at e2
    exact e2
theorem sm_at_lim {e : sm_E} {L S : List sm_V} {σ : sm_S} {r : sm_O × sm_S} (k : sm_at Z P w C m e (sm_go Z P w C m) L S σ = some r) : ∃ n, sm_at Z P w C m e (sm_run Z P w C m n) L S σ = some r := by
  unfold sm_at at k ⊢
  rcases sm_I_lin Z w C e.2.1 e.2.2.2.1 e.1 (sm_lv e L) S σ with ⟨r0, q⟩ | ⟨L1, S1, s1, q⟩ | ⟨t, L1, S1, s1, q⟩ | ⟨s1, q⟩ <;> dsimp only at q
  · rw [q] at k
    exact ⟨0, by rw [q]; exact k⟩
  · rw [q] at k
    obtain ⟨n, h⟩ := sm_go_some.mp k
    exact ⟨n, by rw [q]; exact h⟩
  · rw [q] at k
    obtain ⟨n, h⟩ := sm_go_some.mp k
    exact ⟨n, by rw [q]; exact h⟩
  · rw [q] at k
    unfold sm_hx at k
    cases hh : P.2.2 m e.1 with
    | none =>
      rw [hh] at k
      exact ⟨0, by rw [q]; unfold sm_hx; rw [hh]; exact k⟩
    | some z =>
      rw [hh] at k
      obtain ⟨n, h⟩ := sm_go_some.mp k
      exact ⟨n, by rw [q]; unfold sm_hx; rw [hh]; exact h⟩
theorem sm_go_eq (pc : Nat) (L S : List sm_V) (σ : sm_S) : sm_go Z P w C m pc L S σ = match sm_find pc (P.1 m) with
    | none => none
    | some e => sm_at Z P w C m e (sm_go Z P w C m) L S σ := by
  apply Option.ext
  intro r
  constructor
  · intro h
    obtain ⟨n, h⟩ := sm_go_some.mp h
    cases n with
    | zero => cases h
    | succ n =>
      rw [sm_run] at h
      cases hf : sm_find pc (P.1 m) with
      | none => rw [hf] at h; cases h
      | some e =>
        rw [hf] at h
        exact sm_at_mono (fun _ _ _ _ _ q => sm_go_some.mpr ⟨n, q⟩) h
  · intro h
    cases hf : sm_find pc (P.1 m) with
    | none => rw [hf] at h; cases h
    | some e =>
      rw [hf] at h
      obtain ⟨n, h⟩ := sm_at_lim h
      exact sm_go_some.mpr ⟨n + 1, by rw [sm_run, hf]; exact h⟩
/-- the rest of the code from a place on -/
def sm_seek (pc : Nat) : List sm_E → List sm_E
  | [] => []
  | e :: r => bif e.1 == pc then e :: r else sm_seek pc r
theorem sm_find_seek (pc : Nat) : ∀ l : List sm_E, sm_find pc l = (sm_seek pc l).head?
  | [] => rfl
  | e :: r => by
    rw [sm_find, sm_seek]
    cases e.1 == pc
    · exact sm_find_seek pc r
    · rfl
/-- rows follow each other -/
def sm_chain : Nat → List sm_E → Bool
  | _, [] => true
  | n, e :: r => e.1 == n && (0 < e.2.2.1 && sm_chain (n + e.2.2.1) r)
theorem sm_seek_at : ∀ (pre : List sm_E) (n : Nat) (e : sm_E) (r : List sm_E), sm_chain n (pre ++ e :: r) = true → n ≤ e.1 ∧ (∀ x ∈ pre, x.1 < e.1) ∧ sm_chain (e.1 + e.2.2.1) r = true
  | [], n, e, r, h => by
    simp only [List.nil_append, sm_chain, Bool.and_eq_true, beq_iff_eq, decide_eq_true_eq] at h
    obtain ⟨h1, h2, h3⟩ := h
    exact ⟨by omega, fun x hx => (by cases hx), by rw [h1]; exact h3⟩
  | x :: pre, n, e, r, h => by
    simp only [List.cons_append, sm_chain, Bool.and_eq_true, beq_iff_eq, decide_eq_true_eq] at h
    obtain ⟨h1, h2, h3⟩ := h
    obtain ⟨a, b, c⟩ := sm_seek_at pre _ e r h3
    refine ⟨by omega, fun y hy => ?_, c⟩
    rcases List.mem_cons.mp hy with rfl | hy
    · omega
    · exact b y hy
theorem sm_seek_mid : ∀ (pre : List sm_E) (e : sm_E) (r : List sm_E), (∀ x ∈ pre, x.1 < e.1) → sm_seek e.1 (pre ++ e :: r) = e :: r
  | [], e, r, _ => by simp [sm_seek]
  | x :: pre, e, r, h => by
    have hx : (x.1 == e.1) = false := by
      have := h x List.mem_cons_self
      simp; omega
    rw [List.cons_append, sm_seek, hx]
    exact sm_seek_mid pre e r fun y hy => h y (List.mem_cons_of_mem _ hy)
theorem sm_seek_pre (pc : Nat) : ∀ l : List sm_E, ∃ pre, l = pre ++ sm_seek pc l
  | [] => ⟨[], rfl⟩
  | e :: r => by
    rw [sm_seek]
    cases e.1 == pc
    · obtain ⟨pre, h⟩ := sm_seek_pre pc r
      exact ⟨e :: pre, by rw [List.cons_append]; exact congrArg _ h⟩
    · exact ⟨[], rfl⟩
theorem sm_seek_hd {pc : Nat} : ∀ {l : List sm_E} {e : sm_E} {r : List sm_E}, sm_seek pc l = e :: r → e.1 = pc
  | [], _, _, h => by cases h
  | x :: l, e, r, h => by
    rw [sm_seek] at h
    cases hx : x.1 == pc
    · rw [hx] at h
      exact sm_seek_hd (l := l) h
    · rw [hx] at h
      simp only [cond_true, List.cons.injEq] at h
      rw [← h.1]
      exact beq_iff_eq.mp hx
theorem sm_chain_hd {n : Nat} {l : List sm_E} (h : sm_chain n l = true) : l = [] ∨ ∃ e r, l = e :: r ∧ e.1 = n := by
  cases l with
  | nil => exact Or.inl rfl
  | cons e r =>
    simp only [sm_chain, Bool.and_eq_true, beq_iff_eq] at h
    exact Or.inr ⟨e, r, rfl, h.1⟩
/-- the walk from a row on, up to the next cut -/
def sm_ex (Z : sm_T) (P : sm_P) (w : Bool) (C : sm_C) (m : Nat) (G : Nat → List sm_V → List sm_V → sm_S → sm_R) (cd : List sm_E) : Nat → List sm_E → List sm_V → List sm_V → sm_S → sm_R
  | _, [], _, _, _ => none
  | 0, e :: _, L, S, σ => G e.1 L S σ
  | k + 1, e :: r, L, S, σ => match e.2.2.2.2 with
    | some _ => G e.1 L S σ
    | none => sm_I Z w C e.2.1 e.2.2.2.1 e.1 (sm_ex Z P w C m G cd k r) (fun t => sm_ex Z P w C m G cd k (sm_seek t cd)) (sm_hx P m e.1 G L) L S σ
/-- the same from a cut -/
def sm_x1 (Z : sm_T) (P : sm_P) (w : Bool) (C : sm_C) (m : Nat) (G : Nat → List sm_V → List sm_V → sm_S → sm_R) (cd : List sm_E) (k : Nat) (l : List sm_E) (L S : List sm_V) (σ : sm_S) : sm_R := match l with
  | [] => none
  | e :: r => sm_I Z w C e.2.1 e.2.2.2.1 e.1 (sm_ex Z P w C m G cd k r) (fun t => sm_ex Z P w C m G cd k (sm_seek t cd)) (sm_hx P m e.1 G (sm_lv e L)) (sm_lv e L) S σ
theorem sm_go_none {pc : Nat} (h : sm_seek pc (P.1 m) = []) (L S : List sm_V) (σ : sm_S) : sm_go Z P w C m pc L S σ = none := by
  rw [sm_go_eq, sm_find_seek, h]
  rfl
theorem sm_go_row {e : sm_E} {pre r : List sm_E} (hp : P.1 m = pre ++ e :: r) (hc : sm_chain 0 (P.1 m) = true) (L S : List sm_V) (σ : sm_S) : sm_go Z P w C m e.1 L S σ = sm_at Z P w C m e (sm_go Z P w C m) L S σ := by
  have h := sm_seek_at pre 0 e r (by rw [← hp]; exact hc)
  rw [sm_go_eq, sm_find_seek, hp, sm_seek_mid pre e r h.2.1]
  rfl
theorem sm_seek_next : ∀ (pre : List sm_E) (n : Nat) (e : sm_E) (r : List sm_E), sm_chain n (pre ++ e :: r) = true → sm_seek (e.1 + e.2.2.1) (pre ++ e :: r) = r
  | [], n, e, r, h => by
    simp only [List.nil_append, sm_chain, Bool.and_eq_true, beq_iff_eq, decide_eq_true_eq] at h
    obtain ⟨h1, h2, h3⟩ := h
    have hx : (e.1 == e.1 + e.2.2.1) = false := by simp; omega
    rw [List.nil_append, sm_seek, hx]
    show sm_seek (e.1 + e.2.2.1) r = r
    rcases sm_chain_hd h3 with rfl | ⟨f, r', rfl, hf⟩
    · rfl
    · rw [sm_seek, hf, h1]; simp
  | x :: pre, n, e, r, h => by
    have q := sm_seek_at (x :: pre) n e r h
    simp only [List.cons_append, sm_chain, Bool.and_eq_true, beq_iff_eq, decide_eq_true_eq] at h
    have hx : (x.1 == e.1 + e.2.2.1) = false := by
      have := q.2.1 x List.mem_cons_self
      simp; omega
    rw [List.cons_append, sm_seek, hx]
    exact sm_seek_next pre _ e r h.2.2
theorem sm_ex_go (hc : sm_chain 0 (P.1 m) = true) : ∀ (k : Nat) (pc : Nat) (L S : List sm_V) (σ : sm_S), sm_ex Z P w C m (sm_go Z P w C m) (P.1 m) k (sm_seek pc (P.1 m)) L S σ = sm_go Z P w C m pc L S σ
  | k, pc, L, S, σ => by
    obtain ⟨pre, hp⟩ := sm_seek_pre pc (P.1 m)
    cases hs : sm_seek pc (P.1 m) with
    | nil =>
      rw [sm_go_none hs]
      cases k <;> rfl
    | cons e r =>
      rw [hs] at hp
      have hpc := sm_seek_hd hs
      cases k with
      | zero => show sm_go Z P w C m e.1 L S σ = _; rw [hpc]
      | succ k =>
        rw [sm_ex]
        cases hm : e.2.2.2.2 with
        | some l => show sm_go Z P w C m e.1 L S σ = _; rw [hpc]
        | none =>
          rw [← hpc, sm_go_row hp hc]
          have hl : sm_lv e L = L := by unfold sm_lv; rw [hm]
          have hn : sm_seek (e.1 + e.2.2.1) (P.1 m) = r := by
            rw [hp]; exact sm_seek_next pre 0 e r (by rw [← hp]; exact hc)
          have e1 : sm_ex Z P w C m (sm_go Z P w C m) (P.1 m) k r = sm_go Z P w C m (e.1 + e.2.2.1) := by
            funext L1 S1 s1
            rw [← hn]
            exact sm_ex_go hc k _ L1 S1 s1
          have e2 : (fun t => sm_ex Z P w C m (sm_go Z P w C m) (P.1 m) k (sm_seek t (P.1 m))) = sm_go Z P w C m := by
            funext t L1 S1 s1
            exact sm_ex_go hc k t L1 S1 s1
          unfold sm_at
          rw [hl]
          show sm_I Z w C e.2.1 e.2.2.2.1 e.1 _ _ _ L S σ = _
          rw [e1, e2]
/-- FROM A CUT TO THE NEXT ONES -/
theorem sm_go_x {cd : List sm_E} (hcd : P.1 m = cd) (hc : sm_chain 0 cd = true) (k pc : Nat) (L S : List sm_V) (σ : sm_S) : sm_go Z P w C m pc L S σ = sm_x1 Z P w C m (sm_go Z P w C m) cd k (sm_seek pc cd) L S σ := by
  subst hcd
  obtain ⟨pre, hp⟩ := sm_seek_pre pc (P.1 m)
  cases hs : sm_seek pc (P.1 m) with
  | nil => exact sm_go_none hs _ _ _
  | cons e r =>
    rw [hs] at hp
    have hpc := sm_seek_hd hs
    have hn : sm_seek (e.1 + e.2.2.1) (P.1 m) = r := by
      rw [hp]; exact sm_seek_next pre 0 e r (by rw [← hp]; exact hc)
    have e1 : sm_ex Z P w C m (sm_go Z P w C m) (P.1 m) k r = sm_go Z P w C m (e.1 + e.2.2.1) := by
      funext L1 S1 s1
      rw [← hn]
      exact sm_ex_go hc k _ L1 S1 s1
    have e2 : (fun t => sm_ex Z P w C m (sm_go Z P w C m) (P.1 m) k (sm_seek t (P.1 m))) = sm_go Z P w C m := by
      funext t L1 S1 s1
      exact sm_ex_go hc k t L1 S1 s1
    rw [← hpc, sm_go_row hp hc]
    unfold sm_at sm_x1
    show _ = sm_I Z w C e.2.1 e.2.2.2.1 e.1 _ _ _ (sm_lv e L) S σ
    rw [e1, e2]
end
