section
/-! A STEP KEEPS WHAT HOLDS: calls, items that don't act, the step -/
variable {W W' : zW} {arg pl ty c : Int32} {ops : List Int32} {x : zTx} {r F : List zFr} {fu q0 q pc tgt : Nat} {nm : Nat → Int32} {g : zG}
theorem VTs_rev_args {us ps S : List Int32} (hf : fitAll us ps) (h : VTs W (us.reverse ++ S) ops) : (∀ i t, ps[i]? = some t → VT W t (argN ps.length ops i)) ∧ VTs W S (ops.drop ps.length) := by
  obtain ⟨f1, f2⟩ := hf
  have hl : us.reverse.length = ps.length := by rw [List.length_reverse]; exact f1
  refine ⟨fun i t hi => ?_, ?_⟩
  · have hi' : i < ps.length := by
      rcases Nat.lt_or_ge i ps.length with z | z
      · exact z
      · rw [List.getElem?_eq_none z] at hi; cases hi
    unfold argN
    rw [if_pos hi']
    obtain ⟨u, hu⟩ : ∃ u, us[i]? = some u := ⟨us[i]'(by omega), List.getElem?_eq_getElem _⟩
    have hu' : (us.reverse ++ S)[ps.length - 1 - i]? = some u := by
      rw [List.getElem?_append_left (by omega), List.getElem?_reverse (by omega), f1, ← hu]
      congr 1; omega
    have hlo : ps.length - 1 - i < ops.length := by
      rw [← h.1, List.length_append]; omega
    have := h.2 (ps.length - 1 - i) u (ops[ps.length - 1 - i]) hu' (List.getElem?_eq_getElem hlo)
    rw [List.getD_eq_getElem?_getD, List.getElem?_eq_getElem hlo]
    exact VT_fit this (f2 i u t hu hi)
  · refine ⟨by rw [List.length_drop, ← h.1, List.length_append, hl]; omega, fun i t c h1 h2 => ?_⟩
    refine h.2 (ps.length + i) t c ?_ ?_
    · rw [List.getElem?_append_right (by omega), hl, Nat.add_sub_cancel_left]; exact h1
    · rw [List.getElem?_drop] at h2; exact h2
theorem kPar_mem {ts : List Int32} {y : Nat × Int32} (h : y ∈ kPar ts) : ts[y.1]? = some y.2 := by
  unfold kPar at h
  obtain ⟨i, h1, rfl⟩ := List.mem_map.mp h
  rw [List.mem_range] at h1
  show ts[i]? = some (ts.getD i 0)
  rw [List.getD_eq_getElem?_getD, List.getElem?_eq_getElem h1]; rfl
theorem s_27 (h : MC x W q0 (q, pc, nm, ops) r (27, arg, tgt, pl, ty, g)) : MOk x W q0 (actM x W (q, pc, nm, ops) r fu (27, arg, tgt, pl, ty, g)) := by
  obtain ⟨⟨k, p, us, S, t1, t2, t3, t4, t5, t6⟩, s, hW⟩ := MC_t h
  have t3 : arg = Int32.ofNat (5 + k) := t3
  have t4 : g.1 = us.reverse ++ S := t4
  have t6 : ty = p.2.1 := t6
  have s : VTs W g.1 ops := s
  have e1 : arg - 5 = Int32.ofNat k := by rw [t3]; exact i_sub (p := 5)
  have e2 : Int32.ofNat k < 12 := by rw [show (12 : Int32) = Int32.ofNat 12 from rfl, i_lt (by omega) (by omega)]; exact t2
  have e3 : (Int32.ofNat k).toNatClampNeg = k := i_tn (by omega)
  have e4 : qPar x.2.2 (arg - 5) = p.2.2.1 := by
    unfold qPar; rw [e1, if_pos e2, e3, t1]; rfl
  have e5 : (x.2.2.getD k ([], 38, [], 0)) = p := by
    rw [List.getD_eq_getElem?_getD, t1]; rfl
  show MOk x W q0 (if r.length < 14 then .inl (W, ((arg - 5).toNatClampNeg, (x.2.2.getD (arg - 5).toNatClampNeg ([], 38, [], 0)).2.2.2, argN (qPar x.2.2 (arg - 5)).length ops, []) :: (q, pc + 1, nm, ops.drop (qPar x.2.2 (arg - 5)).length) :: r, fu) else endM 9 _ W fu 0)
  by_cases z : r.length < 14
  · rw [if_pos z, e4, e1, e3, e5]
    rw [t4] at s
    obtain ⟨v1, v2⟩ := VTs_rev_args t5 s
    obtain ⟨hx, -, hF, hi, hl, hb⟩ := h
    obtain ⟨-, c2, c3, c4⟩ := cur_ok hF hi
    have hL := (wt_ok hx hi).2.1 rfl
    have hL : Lands x.1 none (pc + 1) (effS x.2.2 27 arg ty g.1, g.2) := hL
    have eS : effS x.2.2 27 arg ty g.1 = p.2.1 :: S := by
      show ty :: g.1.drop (qPar x.2.2 (arg - 5)).length = _
      rw [e4, t6, t4, List.drop_append_of_le_length (by rw [List.length_reverse, t5.1]; exact Nat.le_refl _), List.drop_of_length_le (by rw [List.length_reverse, t5.1]; exact Nat.le_refl _)]
      rfl
    rw [eS] at hL
    obtain ⟨e', l1, l2, l3, l4, l5, l6⟩ := Lands_0 hL
    refine ⟨WLe.refl W, hW, FsOk_land (hx.2.2.1 k p t1) VTs_nil (fun y hy => v1 y.1 y.2 (kPar_mem hy)) ⟨p, t1, rfl⟩ ⟨e', S, l1, l2, ⟨l3, pc, _, rfl, hi, rfl, l6.symm⟩, v2, fun y hy => c2 y (l4 y hy), by rw [l5]; exact c3, by rw [l5]; exact c4⟩, by simp; omega, ?_⟩
    show botQ (_ :: (q, pc + 1, nm, ops.drop p.2.2.1.length) :: r) = _
    rw [← hb, botQ_push]; exact botQ_hd rfl
  · rw [if_neg z]; exact end_M (n := 9) h (by decide) (by decide) rfl
theorem act_ok {f : zFr} {e : zI} (h : MC x W q0 f r e) (h4 : 4 ≤ e.1) (h33 : e.1 < 33) : MOk x W q0 (actM x W f r fu e) := by
  obtain ⟨q, pc, nm, ops⟩ := f
  obtain ⟨op, arg, tgt, pl, ty, g⟩ := e
  have h4 : 4 ≤ op := h4
  have h33 : op < 33 := h33
  match op with
  | 0 => omega
  | 1 => omega
  | 2 => omega
  | 3 => omega
  | 4 => exact s_4 h
  | 5 => exact s_5 h
  | 6 => exact s_6 h
  | 7 => exact s_7 h
  | 8 => exact s_8 h
  | 9 => exact s_9 h
  | 10 => exact s_10 h
  | 11 => exact s_11 h
  | 12 => exact s_12 h
  | 13 => exact s_13 h
  | 14 => exact s_14 h
  | 15 => exact s_15 h
  | 16 => exact s_16 h
  | 17 => exact s_17 h
  | 18 => exact s_18 h
  | 19 => exact s_19 h
  | 20 => exact s_20 h
  | 21 => exact s_21 h
  | 22 => exact s_22 h
  | 23 => exact s_23 h
  | 24 => exact s_24 h
  | 25 => exact s_25 h
  | 26 => exact s_26 h
  | 27 => exact s_27 h
  | 28 => exact s_28 h
  | 29 => exact s_29 h
  | 30 => exact s_30 h
  | 31 => exact s_31 h
  | 32 => exact s_32 h
  | n + 33 => omega
theorem free_ok {f : zFr} {e : zI} (h : MC x W q0 f r e) (hn : ¬ (4 ≤ e.1 ∧ e.1 < 33)) : MOk x W q0 (freeM W f r fu e) := by
  obtain ⟨q, pc, nm, ops⟩ := f
  obtain ⟨op, arg, tgt, pl, ty, g⟩ := e
  obtain ⟨t, s, hW⟩ := MC_t h
  have hn : ¬ (4 ≤ op ∧ op < 33) := hn
  have h2 : op ≠ 2 := by
    obtain ⟨e', S, h1, h2, -⟩ := h.2.2.1
    rw [h.2.2.2.1] at h1
    cases h1
    exact h2
  have hj := (wt_ok h.1 h.2.2.2.1).2.2.1
  have hL := (wt_ok h.1 h.2.2.2.1).2.1
  have s : VTs W g.1 ops := s
  by_cases z : op < 4
  · match op, z with
    | 0, _ => exact jump_M (f := (q, pc, nm, ops)) h hj.1 s (fun y hy => hy) rfl
    | 1, _ =>
      obtain ⟨t, S, t1, -⟩ := t
      exact go_0 (v := 0) h ⟨rfl, rfl, rfl, by decide⟩ t1 hW (WLe.refl W)
    | 2, _ => exact absurd rfl h2
    | 3, _ => exact leave_M h VT_0
    | n + 4, z => omega
  · obtain ⟨n, rfl⟩ : ∃ n, op = n + 33 := ⟨op - 33, by omega⟩
    match n with
    | 0 => exact jump_M (f := (q, pc, nm, ops)) h (hL rfl) s (fun y hy => hy) rfl
    | 1 => exact jump_M (f := (q, pc, nm, ops)) h (hL rfl) s (fun y hy => hy) rfl
    | 2 =>
      obtain ⟨S, t1⟩ := t
      exact go_0 (v := 0) h ⟨rfl, rfl, rfl, by decide⟩ t1 hW (WLe.refl W)
    | n + 3 => exact absurd t (by unfold tOk; simp)
/-- before a step -/
def MS (x : zTx) (W : zW) (q0 : Nat) (F : List zFr) : Prop := WTx x ∧ WW W ∧ FsOk x W none F ∧ F.length ≤ 15 ∧ botQ F = some q0
theorem step_ok (h : MS x W q0 F) : MOk x W q0 (stepM x W F fu) := by
  obtain ⟨hx, hW, hF, hl, hb⟩ := h
  cases F with
  | nil => cases hb
  | cons f r =>
    obtain ⟨e, S, h1, -⟩ := id hF
    have hm : MC x W q0 f r e := ⟨hx, hW, hF, h1, hl, hb⟩
    unfold stepM
    dsimp only
    rw [h1]
    dsimp only
    by_cases z : 4 ≤ e.1 ∧ e.1 < 33
    · rw [if_pos z]
      cases fu with
      | zero => exact end_M (n := 7) hm (by decide) (by decide) rfl
      | succ fu => exact act_ok hm z.1 z.2
    · rw [if_neg z]; exact free_ok hm z
end
