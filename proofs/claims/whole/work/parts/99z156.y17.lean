section
/-! THE RUN COMES TO ITS END -/
variable {W W' : zW} {why v : Int32} {x : zTx} {r F : List zFr} {fu q0 n : Nat} {f : zFr} {e : zI} {l : List zI}
def rho (l : List zI) (pc : Nat) : Nat := match l[pc]? with
  | some e => if 4 ≤ e.1 ∧ e.1 < 33 then 0 else if e.1 = 0 ∧ e.2.2.1 ≤ pc then 1 else l.length - pc + 1
  | none => 0
theorem rho_le : rho l n ≤ l.length + 1 := by
  unfold rho
  split
  · split
    · omega
    · split <;> omega
  · omega
theorem rho_s {e : zI} (h : l[n]? = some e) : rho l n = if 4 ≤ e.1 ∧ e.1 < 33 then 0 else if e.1 = 0 ∧ e.2.2.1 ≤ n then 1 else l.length - n + 1 := by
  unfold rho; rw [h]
def rhoF (l : List zI) (F : List zFr) : Nat := match F with
  | [] => 0
  | f :: _ => rho l f.2.1
theorem rhoF_le : rhoF l F ≤ l.length + 1 := by
  cases F with
  | nil => exact Nat.zero_le _
  | cons f r => exact rho_le
def pot (x : zTx) (F : List zFr) (fu : Nat) : Nat := 1810 * fu + 902 * F.length + rhoF x.1 F
/-- the fuel, and how deep it is then at most -/
def LFu (n fu : Nat) (z : zMR) : Prop := match z with
  | .inl y => y.2.2 = fu ∧ y.2.1.length ≤ n
  | .inr _ => True
theorem LFu_le {z : zMR} {m : Nat} (h : LFu n fu z) (hm : n ≤ m) : LFu m fu z := by
  rcases z with y | y
  · exact ⟨h.1, Nat.le_trans h.2 hm⟩
  · trivial
theorem LFu_go {S : List Int32} : LFu (r.length + 2) fu (goM W f r fu S) := ⟨rfl, Nat.le_succ _⟩
theorem LFu_end : LFu n fu (endM why e W fu v) := trivial
theorem unw_len : ∀ (F F' : List zFr) (s : Nat), unw l v s F = some F' → F'.length ≤ F.length
  | [], _, _, h => by cases h
  | f :: r, F', s, h => by
    rw [unw] at h
    split at h
    · split at h
      · cases h; exact Nat.le_refl _
      · cases h
    · exact Nat.le_trans (unw_len r F' 1 h) (Nat.le_succ _)
theorem LFu_raise : LFu (r.length + 2) fu (raiseM l W (f :: r) fu e why v) := by
  unfold raiseM
  split
  · exact LFu_end
  · split
    · rename_i F' h
      exact ⟨rfl, Nat.le_trans (unw_len _ _ _ h) (Nat.le_succ _)⟩
    · exact LFu_end
theorem LFu_leave : LFu r.length fu (leaveM W r fu v) := by
  unfold leaveM
  split
  · trivial
  · exact ⟨rfl, Nat.le_refl _⟩
theorem LFu_ite {p : Prop} [Decidable p] {a b : zMR} (h1 : LFu n fu a) (h2 : LFu n fu b) : LFu n fu (if p then a else b) := by
  split
  · exact h1
  · exact h2
theorem LFu_in {q pc : Nat} {nm : Nat → Int32} {S : List Int32} : LFu (r.length + 2) fu (.inl (W, (q, pc, nm, S) :: r, fu)) := ⟨rfl, Nat.le_succ _⟩
theorem act_fu : LFu (r.length + 2) fu (actM x W f r fu e) := by
  unfold actM
  dsimp only
  split
  all_goals first
    | exact LFu_go
    | exact LFu_in
    | exact LFu_end
    | exact LFu_raise
    | exact LFu_le LFu_leave (by omega)
    | exact LFu_ite LFu_raise LFu_go
    | exact LFu_ite LFu_raise (LFu_ite LFu_go LFu_raise)
    | exact LFu_ite LFu_raise (LFu_ite (LFu_ite LFu_go LFu_raise) LFu_raise)
    | exact LFu_ite LFu_go LFu_end
    | exact LFu_ite (LFu_ite LFu_raise LFu_go) LFu_end
    | exact LFu_ite LFu_in LFu_go
    | exact LFu_ite LFu_go LFu_go
    | exact LFu_ite ⟨rfl, Nat.le_refl _⟩ LFu_end
theorem step_pot {y : zW × List zFr × Nat} (h : MS x W q0 F) (hs : stepM x W F fu = .inl y) : pot x y.2.1 y.2.2 < pot x F fu := by
  obtain ⟨hx, hW, hF, hl, hb⟩ := h
  have hlen : x.1.length ≤ 800 := hx.2.2.2.1
  cases F with
  | nil => cases hb
  | cons f r =>
    obtain ⟨e, S, h1, h2e, -⟩ := id hF
    have hpc : f.2.1 < x.1.length := (List.getElem?_eq_some_iff.mp h1).1
    unfold stepM at hs
    dsimp only at hs
    rw [h1] at hs
    dsimp only at hs
    by_cases z : 4 ≤ e.1 ∧ e.1 < 33
    · rw [if_pos z] at hs
      cases fu with
      | zero => cases hs
      | succ fu =>
        have k := act_fu (x := x) (W := W) (f := f) (r := r) (fu := fu) (e := e)
        have hs : actM x W f r fu e = .inl y := hs
        rw [hs] at k
        obtain ⟨k1, k2⟩ := k
        have := rhoF_le (l := x.1) (F := y.2.1)
        unfold pot
        rw [k1]
        show _ < 1810 * (fu + 1) + 902 * (r.length + 1) + _
        have k2 : y.2.1.length ≤ r.length + 2 := k2
        omega
    · rw [if_neg z] at hs
      have hr : rhoF x.1 (f :: r) = if e.1 = 0 ∧ e.2.2.1 ≤ f.2.1 then 1 else x.1.length - f.2.1 + 1 := by
        show rho x.1 f.2.1 = _
        rw [rho_s h1, if_neg z]
      obtain ⟨hf, ht, hj, -⟩ := wt_ok (f := f) hx h1
      have go : ∀ (S : List Int32), e.1 ≠ 0 → falls e.1 = true → pot x ((f.1, f.2.1 + 1, f.2.2.1, S) :: r) fu < pot x (f :: r) fu := fun S h0 hfa => by
        unfold pot
        rw [hr, if_neg (fun q => h0 q.1)]
        show 1810 * fu + 902 * (r.length + 1) + rho x.1 (f.2.1 + 1) < 1810 * fu + 902 * (r.length + 1) + _
        obtain ⟨e', e1, -⟩ := Lands_0 (ht hfa)
        have := (List.getElem?_eq_some_iff.mp e1).1
        rw [rho_s e1]
        split
        · omega
        · split <;> omega
      obtain ⟨op, arg, tgt, pl, ty, g⟩ := e
      have z : ¬ (4 ≤ op ∧ op < 33) := z
      have h2e : op ≠ 2 := h2e
      by_cases z4 : op < 4
      · match op, z4 with
        | 0, _ =>
          have hs : (Sum.inl (W, (f.1, tgt, f.2.2.1, f.2.2.2) :: r, fu) : zMR) = .inl y := hs
          cases hs
          unfold pot
          rw [hr]
          show 1810 * fu + 902 * (r.length + 1) + rho x.1 tgt < 1810 * fu + 902 * (r.length + 1) + (if (0 : Nat) = 0 ∧ tgt ≤ f.2.1 then 1 else x.1.length - f.2.1 + 1)
          obtain ⟨hj1, hj2⟩ := hj
          have hj2 : f.2.1 < tgt ∨ ∃ e', x.1[tgt]? = some e' ∧ isAct e'.1 := hj2
          by_cases zz : tgt ≤ f.2.1
          · rw [if_pos ⟨rfl, zz⟩]
            rcases hj2 with hj2 | ⟨e', e1, e2⟩
            · omega
            · have e2 : 4 ≤ e'.1 ∧ e'.1 < 33 := e2
              rw [rho_s e1, if_pos e2]; omega
          · rw [if_neg (fun q => zz q.2)]
            obtain ⟨e', e1, -⟩ := Lands_0 hj1
            have e1 : x.1[tgt]? = some e' := e1
            have := (List.getElem?_eq_some_iff.mp e1).1
            rw [rho_s e1]
            split
            · omega
            · split <;> omega
        | 1, _ =>
          have hs : (goM W f r fu (f.2.2.2.drop 1)) = .inl y := hs
          cases hs
          exact go _ (by simp) rfl
        | 2, _ => exact absurd rfl h2e
        | 3, _ =>
          have hs : leaveM W r fu 0 = .inl y := hs
          have k := LFu_leave (W := W) (r := r) (fu := fu) (v := 0)
          rw [hs] at k
          obtain ⟨k1, k2⟩ := k
          have := rhoF_le (l := x.1) (F := y.2.1)
          unfold pot
          rw [k1]
          show _ < 1810 * fu + 902 * (r.length + 1) + _
          have k2 : y.2.1.length ≤ r.length := k2
          omega
        | n + 4, z4 => omega
      · obtain ⟨n, rfl⟩ : ∃ n, op = n + 33 := ⟨op - 33, by omega⟩
        match n with
        | 0 =>
          have hs : (goM W f r fu f.2.2.2) = .inl y := hs
          cases hs
          exact go _ (by simp) rfl
        | 1 =>
          have hs : (goM W f r fu f.2.2.2) = .inl y := hs
          cases hs
          exact go _ (by simp) rfl
        | 2 =>
          have hs : (goM W f r fu (f.2.2.2.drop 1)) = .inl y := hs
          cases hs
          exact go _ (by simp) rfl
        | n + 3 => exact absurd hf (by unfold tOk; simp)
theorem run_ends (hx : WTx x) : ∀ (n : Nat) (W : zW) (F : List zFr) (fu : Nat), MS x W q0 F → pot x F fu < n → ∃ z, runM x n W F fu = .inr z ∧ MOk x W q0 (.inr z)
  | 0, _, _, _, _, h => by omega
  | n + 1, W, F, fu, h, hp => by
    have k := step_ok (fu := fu) h
    rw [runM]
    cases hs : stepM x W F fu with
    | inr z => rw [hs] at k; exact ⟨z, rfl, k⟩
    | inl y =>
      rw [hs] at k
      have hp' := step_pot h hs
      obtain ⟨z, z1, z2⟩ := run_ends hx n y.1 y.2.1 y.2.2 ⟨hx, k.2.1, k.2.2.1, k.2.2.2.1, k.2.2.2.2⟩ (by omega)
      refine ⟨z, z1, ?_⟩
      obtain ⟨a1, a2, a3, a4⟩ := z2
      exact ⟨k.1.trans a1, a2, a3, a4⟩
end
