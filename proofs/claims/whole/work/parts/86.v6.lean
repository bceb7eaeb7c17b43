section
/-! WHERE AN ITEM STANDS: in the class's code, in the reference's -/
variable {l m : List zI} {v : Nat → Bool} {k j : Nat} {e : zI}
def pos (v : Nat → Bool) (l : List zI) (k : Nat) : Nat := ((l.take k).filter (fun e => v e.1)).length
theorem pos_app (h : k ≤ l.length) : pos v (l ++ m) k = pos v l k := by
  unfold pos; rw [List.take_append_of_le_length h]
theorem pos_s (h : l[k]? = some e) : pos v l (k + 1) = pos v l k + (if v e.1 = true then 1 else 0) := by
  unfold pos
  rw [List.take_add_one, h, Option.toList_some, List.filter_append, List.length_append]
  congr 1
  by_cases q : v e.1 = true
  · simp [q]
  · simp [q]
theorem pos_ge (h : l.length ≤ k) : pos v l k = pos v l l.length := by
  unfold pos; rw [List.take_of_length_le h, List.take_length]
theorem pos_mono (h : j ≤ k) : pos v l j ≤ pos v l k := by
  induction k with
  | zero => rw [show j = 0 by omega]; exact Nat.le_refl _
  | succ k ih =>
    by_cases q : j = k + 1
    · rw [q]; exact Nat.le_refl _
    · refine Nat.le_trans (ih (by omega)) ?_
      cases hk : l[k]? with
      | none =>
        have hl := List.getElem?_eq_none_iff.mp hk
        rw [pos_ge hl, pos_ge (show l.length ≤ k + 1 by omega)]; exact Nat.le_refl _
      | some e => rw [pos_s hk]; exact Nat.le_add_right _ _
theorem pos_lt (h : l[j]? = some e) (hv : v e.1 = true) (hk : j < k) : pos v l j < pos v l k := by
  have h1 := pos_s (v := v) h
  rw [if_pos hv] at h1
  have h2 := pos_mono (v := v) (l := l) (show j + 1 ≤ k from hk)
  omega
theorem pos_le : pos v l k ≤ k := by
  unfold pos
  exact Nat.le_trans (List.length_filter_le _ _) (by rw [List.length_take]; exact Nat.min_le_left _ _)
theorem pos_len : pos v l k ≤ pos v l l.length := by
  by_cases h : k ≤ l.length
  · exact pos_mono h
  · rw [pos_ge (by omega)]; exact Nat.le_refl _
theorem pos_inj {e' : zI} (h : l[j]? = some e) (hv : v e.1 = true) (h' : l[k]? = some e') (hv' : v e'.1 = true) (q : pos v l j = pos v l k) : j = k := by
  rcases Nat.lt_trichotomy j k with z | z | z
  · have := pos_lt h hv z; omega
  · exact z
  · have := pos_lt h' hv' z; omega
theorem pos_1 : pos v (l ++ [e]) (l.length + 1) = pos v l l.length + (if v e.1 = true then 1 else 0) := by
  rw [pos_s (l := l ++ [e]) (k := l.length) (e := e) (by simp), pos_app (Nat.le_refl _)]
theorem pos_L : pos v (l ++ [e]) (l ++ [e]).length = pos v l l.length + (if v e.1 = true then 1 else 0) := by
  rw [List.length_append]; exact pos_1
theorem pos_mod {f : zI → zI} (hf : ∀ e, (f e).1 = e.1) : pos v (l.modify j f) k = pos v l k := by
  induction k with
  | zero => rfl
  | succ k ih =>
    cases hk : l[k]? with
    | none =>
      have hl := List.getElem?_eq_none_iff.mp hk
      have hl2 : (l.modify j f).length ≤ k := by rw [List.length_modify]; exact hl
      rw [pos_ge (show l.length ≤ k + 1 by omega), pos_ge (show (l.modify j f).length ≤ k + 1 by omega), ← pos_ge hl, ← pos_ge hl2]; exact ih
    | some e =>
      have h2 : (l.modify j f)[k]? = some (if j = k then f e else e) := by
        rw [List.getElem?_modify, hk]; by_cases q : j = k <;> simp [q]
      rw [pos_s hk, pos_s h2, ih]
      by_cases q : j = k
      · rw [if_pos q, hf]
      · rw [if_neg q]
def vC (op : Nat) : Bool := !(op == 33 || op == 34)
def vM (op : Nat) : Bool := !(op == 2 || op == 35)
def vT (op : Nat) : Bool := op == 33
/-- the try that is begun innermost -/
def ctr (l : List zI) (h : List Nat) : Int32 := match h with
  | [] => -1
  | k :: _ => Int32.ofNat (pos vT l k)
theorem ctr_app {h : List Nat} (hh : ∀ k ∈ h, k ≤ l.length) : ctr (l ++ m) h = ctr l h := by
  cases h with
  | nil => rfl
  | cons k r => show Int32.ofNat (pos vT (l ++ m) k) = Int32.ofNat (pos vT l k); rw [pos_app (hh k List.mem_cons_self)]
theorem ctr_mod {h : List Nat} {f : zI → zI} (hf : ∀ e, (f e).1 = e.1) : ctr (l.modify j f) h = ctr l h := by
  cases h with
  | nil => rfl
  | cons k r => show Int32.ofNat (pos vT (l.modify j f) k) = Int32.ofNat (pos vT l k); rw [pos_mod hf]
abbrev i_g (e : zI) : zG := e.2.2.2.2.2
abbrev i_h (e : zI) : List Nat := e.2.2.2.2.2.2.2.2
/-- what items point to is there -/
def okL (l : List zI) (ct h : List Nat) : Prop := (∀ e ∈ l, e.2.2.1 ≤ l.length ∧ ∀ k ∈ i_h e, k ≤ l.length) ∧ (∀ t ∈ ct, t ≤ l.length) ∧ (∀ k ∈ h, k ≤ l.length)
theorem okL_app {ct h : List Nat} (hk : okL l ct h) (he : e.2.2.1 ≤ l.length + 1 ∧ ∀ k ∈ i_h e, k ≤ l.length + 1) : okL (l ++ [e]) ct h := by
  obtain ⟨h1, h2, h3⟩ := hk
  have hl : (l ++ [e]).length = l.length + 1 := by rw [List.length_append]; rfl
  refine ⟨fun x hx => ?_, fun t ht => by rw [hl]; have := h2 t ht; omega, fun k hk => by rw [hl]; have := h3 k hk; omega⟩
  rw [hl]
  rcases List.mem_append.mp hx with q | q
  · obtain ⟨g1, g2⟩ := h1 x q
    exact ⟨by omega, fun k hk => by have := g2 k hk; omega⟩
  · rcases List.mem_singleton.mp q with rfl
    exact he
/-! THE CLASS's CODE -/
variable {X : Nat × (Nat → Int32)} {d : Nat} {s σ : sm_S} {ci : Nat} {ct h : List Nat}
def cArg (l : List zI) (e : zI) : Int32 := if e.1 = 0 ∨ e.1 = 26 then Int32.ofNat (pos vC l e.2.2.1) else e.2.1
/-- a drop of nothing is a drop to the class -/
def cOp (n : Nat) : Nat := bif n == 35 then 1 else n
def CVi (l : List zI) (ci : Nat) (σ : sm_S) : Prop := ∀ k e, l[k]? = some e → vC e.1 = true → σ.1 30 ci (pos vC l k) = Int32.ofNat (cOp e.1) ∧ σ.1 31 ci (pos vC l k) = cArg l e ∧ σ.1 32 ci (pos vC l k) = e.2.2.2.1 ∧ σ.1 33 ci (pos vC l k) = ctr l (i_h e)
def CV (l : List zI) (ct h : List Nat) (ci : Nat) (σ : sm_S) : Prop := σ.1 10 ci 11 = Int32.ofNat (pos vC l l.length) ∧ CVi l ci σ ∧ σ.1 10 ci 10 = Int32.ofNat ct.length ∧ (∀ j t, ct[j]? = some t → σ.1 34 ci j = Int32.ofNat (pos vC l t)) ∧ σ.1 10 ci 12 = ctr l h ∧ ct.length = pos vT l l.length ∧ okL l ct h
/-- a write elsewhere -/
theorem CV_o {t i k : Nat} {x : Int32} (q : CV l ct h ci σ) (h1 : t ≠ 10) (h2 : t ≠ 30) (h3 : t ≠ 31) (h4 : t ≠ 32) (h5 : t ≠ 33) (h6 : t ≠ 34) : CV l ct h ci (sI σ t i k x) := by
  obtain ⟨a1, a2, a3, a4, a5, a6⟩ := q
  refine ⟨?_, fun k e hk hv => ?_, ?_, fun j t ht => ?_, ?_, a6⟩
  · rw [gI, if_neg (fun z => h1 z.1.symm)]; exact a1
  · obtain ⟨b1, b2, b3, b4⟩ := a2 k e hk hv
    exact ⟨by rw [gI, if_neg (fun z => h2 z.1.symm)]; exact b1, by rw [gI, if_neg (fun z => h3 z.1.symm)]; exact b2, by rw [gI, if_neg (fun z => h4 z.1.symm)]; exact b3, by rw [gI, if_neg (fun z => h5 z.1.symm)]; exact b4⟩
  · rw [gI, if_neg (fun z => h1 z.1.symm)]; exact a3
  · rw [gI, if_neg (fun z => h6 z.1.symm)]; exact a4 j t ht
  · rw [gI, if_neg (fun z => h1 z.1.symm)]; exact a5
theorem CV_10 {k : Nat} {x : Int32} (q : CV l ct h ci σ) (hk : k ≠ 10) (hk1 : k ≠ 11) (hk2 : k ≠ 12) {i : Nat} : CV l ct h ci (sI σ 10 i k x) := by
  obtain ⟨a1, a2, a3, a4, a5, a6⟩ := q
  refine ⟨?_, fun k e hk hv => ?_, ?_, fun j t ht => ?_, ?_, a6⟩
  · rw [gI, if_neg (by omega)]; exact a1
  · obtain ⟨b1, b2, b3, b4⟩ := a2 k e hk hv
    exact ⟨by rw [gI, if_neg (by omega)]; exact b1, by rw [gI, if_neg (by omega)]; exact b2, by rw [gI, if_neg (by omega)]; exact b3, by rw [gI, if_neg (by omega)]; exact b4⟩
  · rw [gI, if_neg (by omega)]; exact a3
  · rw [gI, if_neg (by omega)]; exact a4 j t ht
  · rw [gI, if_neg (by omega)]; exact a5
theorem CV_L {t i k : Nat} {x : Int64} (q : CV l ct h ci σ) : CV l ct h ci (sL σ t i k x) := q
/-- one more item that the class sees -/
theorem CV_emit {e : zI} {op arg pl : Int32} (q : CV l ct h ci σ) (hv : vC e.1 = true) (ht : ¬ e.1 = 33) (he : e.2.2.1 ≤ l.length) (hh : i_h e = h) (h1 : op = Int32.ofNat (cOp e.1)) (h2 : arg = cArg l e) (h3 : pl = e.2.2.2.1) : CV (l ++ [e]) ct h ci (emS σ ci (pos vC l l.length) op arg pl) := by
  subst h1 h2 h3
  obtain ⟨a1, a2, a3, a4, a5, a6, a7⟩ := q
  have okh := a7.2.2
  have hn : pos vC (l ++ [e]) (l ++ [e]).length = pos vC l l.length + 1 := by rw [pos_L, if_pos hv]
  have new : pos vC (l ++ [e]) l.length = pos vC l l.length := pos_app (Nat.le_refl _)
  refine ⟨?_, fun k x hk hx => ?_, ?_, fun j t hj => ?_, ?_, ?_, okL_app a7 ⟨by omega, fun k hk => by rw [hh] at hk; have := okh k hk; omega⟩⟩
  · rw [emS, gI, if_pos ⟨rfl, rfl, rfl⟩, hn]
  · rcases Nat.lt_or_ge k l.length with z | z
    · rw [List.getElem?_append_left z] at hk
      have hp : pos vC (l ++ [e]) k = pos vC l k := pos_app (by omega)
      have hlt : pos vC l k < pos vC l l.length := pos_lt hk hx z
      obtain ⟨b1, b2, b3, b4⟩ := a2 k x hk hx
      have hm := List.mem_of_getElem? hk
      obtain ⟨o1, o2⟩ := a7.1 x hm
      rw [hp]
      refine ⟨?_, ?_, ?_, ?_⟩
      · rw [emS, gI, if_neg (by omega), gI, if_neg (by omega), gI, if_neg (by omega), gI, if_neg (by omega), gI, if_neg (by omega)]; exact b1
      · rw [emS, gI, if_neg (by omega), gI, if_neg (by omega), gI, if_neg (by omega), gI, if_neg (by omega), gI, if_neg (by omega), b2]
        unfold cArg; rw [pos_app o1]
      · rw [emS, gI, if_neg (by omega), gI, if_neg (by omega), gI, if_neg (by omega), gI, if_neg (by omega), gI, if_neg (by omega)]; exact b3
      · rw [emS, gI, if_neg (by omega), gI, if_neg (by omega), gI, if_neg (by omega), gI, if_neg (by omega), gI, if_neg (by omega), b4, ctr_app o2]
    · have hk2 : k = l.length := by
        have := (List.getElem?_eq_some_iff.mp hk).1
        rw [List.length_append] at this
        have : k < l.length + 1 := this
        omega
      subst hk2
      have hx2 : x = e := by simp at hk; exact hk.symm
      subst hx2
      rw [new]
      refine ⟨?_, ?_, ?_, ?_⟩
      · rw [emS, gI, if_neg (by omega), gI, if_neg (by omega), gI, if_neg (by omega), gI, if_neg (by omega), gI, if_pos ⟨rfl, rfl, rfl⟩]
      · rw [emS, gI, if_neg (by omega), gI, if_neg (by omega), gI, if_neg (by omega), gI, if_pos ⟨rfl, rfl, rfl⟩]
        unfold cArg; rw [pos_app he]
      · rw [emS, gI, if_neg (by omega), gI, if_neg (by omega), gI, if_pos ⟨rfl, rfl, rfl⟩]
      · rw [emS, gI, if_neg (by omega), gI, if_pos ⟨rfl, rfl, rfl⟩, a5, hh, ctr_app okh]
  · rw [emS, gI, if_neg (by omega), gI, if_neg (by omega), gI, if_neg (by omega), gI, if_neg (by omega), gI, if_neg (by omega)]; exact a3
  · rw [emS, gI, if_neg (by omega), gI, if_neg (by omega), gI, if_neg (by omega), gI, if_neg (by omega), gI, if_neg (by omega), pos_app (a7.2.1 t (List.mem_of_getElem? hj))]; exact a4 j t hj
  · rw [emS, gI, if_neg (by omega), gI, if_neg (by omega), gI, if_neg (by omega), gI, if_neg (by omega), gI, if_neg (by omega), ctr_app okh]; exact a5
  · rw [pos_L, if_neg (by unfold vT; simpa using ht)]; exact a6
/-- the last item is taken back -/
theorem CV_take {e : zI} (q : CV (l ++ [e]) ct h ci σ) (hv : vC e.1 = true) (ht : ¬ e.1 = 33) (hk : okL l ct h) : CV l ct h ci (sI σ 10 ci 11 (Int32.ofNat (pos vC l l.length))) := by
  obtain ⟨a1, a2, a3, a4, a5, a6, a7⟩ := q
  refine ⟨?_, fun k x hk2 hx => ?_, ?_, fun j t hj => ?_, ?_, ?_, hk⟩
  · rw [gI, if_pos ⟨rfl, rfl, rfl⟩]
  · have z := (List.getElem?_eq_some_iff.mp hk2).1
    obtain ⟨b1, b2, b3, b4⟩ := a2 k x (by rw [List.getElem?_append_left z]; exact hk2) hx
    rw [pos_app (by omega)] at b1 b2 b3 b4
    obtain ⟨o1, o2⟩ := hk.1 x (List.mem_of_getElem? hk2)
    refine ⟨by rw [gI, if_neg (by omega)]; exact b1, ?_, by rw [gI, if_neg (by omega)]; exact b3, ?_⟩
    · rw [gI, if_neg (by omega), b2]; unfold cArg; rw [pos_app o1]
    · rw [gI, if_neg (by omega), b4, ctr_app o2]
  · rw [gI, if_neg (by omega)]; exact a3
  · rw [gI, if_neg (by omega), ← pos_app (hk.2.1 t (List.mem_of_getElem? hj))]; exact a4 j t hj
  · rw [gI, if_neg (by omega), a5, ctr_app hk.2.2]
  · rw [a6, pos_L, if_neg (by unfold vT; simpa using ht)]; rfl
/-- a jump is aimed at the end of the code -/
theorem CV_aim {k : Nat} {e : zI} (q : CV l ct h ci σ) (hk : l[k]? = some e) (he : e.1 = 0 ∨ e.1 = 26) : CV (l.modify k (fun e => (e.1, e.2.1, l.length, e.2.2.2))) ct h ci (sI σ 31 ci (pos vC l k) (Int32.ofNat (pos vC l l.length))) := by
  obtain ⟨a1, a2, a3, a4, a5, a6, a7⟩ := q
  have hf : ∀ e : zI, ((fun e : zI => ((e.1, e.2.1, l.length, e.2.2.2) : zI)) e).1 = e.1 := fun _ => rfl
  have hve : vC e.1 = true := by rcases he with z | z <;> rw [z] <;> rfl
  refine ⟨?_, fun j x hj hx => ?_, ?_, fun j t hj => ?_, ?_, ?_, ?_⟩
  · rw [gI, if_neg (by omega), List.length_modify, pos_mod hf]; exact a1
  · rw [List.getElem?_modify] at hj
    cases hy : l[j]? with
    | none => rw [hy] at hj; cases hj
    | some y =>
      rw [hy] at hj
      have hj : (if k = j then (fun e : zI => ((e.1, e.2.1, l.length, e.2.2.2) : zI)) y else y) = x := by
        by_cases z : k = j <;> simp [z] at hj ⊢ <;> exact hj
      have hx1 : x.1 = y.1 := by rw [← hj]; split <;> rfl
      have hvy : vC y.1 = true := by rw [← hx1]; exact hx
      obtain ⟨b1, b2, b3, b4⟩ := a2 j y hy hvy
      rw [pos_mod hf]
      refine ⟨?_, ?_, ?_, ?_⟩
      · rw [gI, if_neg (by omega), hx1]; exact b1
      · by_cases z : k = j
        · subst z
          rw [gI, if_pos ⟨rfl, rfl, rfl⟩]
          rw [if_pos rfl] at hj
          have hye : y = e := Option.some.inj (hy.symm.trans hk)
          subst hye
          subst hj
          unfold cArg
          rw [if_pos he, pos_mod hf]
        · rw [if_neg z] at hj
          subst hj
          rw [gI, if_neg (fun w => z (pos_inj (v := vC) hk hve hy hvy w.2.2.symm)), b2]
          unfold cArg; rw [pos_mod hf]
      · rw [gI, if_neg (by omega)]
        have : x.2.2.2.1 = y.2.2.2.1 := by rw [← hj]; split <;> rfl
        rw [this]; exact b3
      · rw [gI, if_neg (by omega), ctr_mod hf]
        have : i_h x = i_h y := by rw [← hj]; split <;> rfl
        rw [this]; exact b4
  · rw [gI, if_neg (by omega)]; exact a3
  · rw [gI, if_neg (by omega), pos_mod hf]; exact a4 j t hj
  · rw [gI, if_neg (by omega), ctr_mod hf]; exact a5
  · rw [List.length_modify, pos_mod hf]; exact a6
  · obtain ⟨g1, g2, g3⟩ := a7
    unfold okL
    rw [List.length_modify]
    refine ⟨fun x hx => ?_, g2, g3⟩
    obtain ⟨j, hj⟩ := List.mem_iff_getElem?.mp hx
    rw [List.getElem?_modify] at hj
    cases hy : l[j]? with
    | none => rw [hy] at hj; cases hj
    | some y =>
      rw [hy] at hj
      obtain ⟨o1, o2⟩ := g1 y (List.mem_of_getElem? hy)
      by_cases z : k = j
      · simp [z] at hj
        rw [← hj]
        exact ⟨Nat.le_refl _, o2⟩
      · simp [z] at hj
        rw [← hj]
        exact ⟨o1, o2⟩
/-- a try begins -/
theorem CV_try {e : zI} (q : CV l ct h ci σ) (he : e.1 = 33) (ht : e.2.2.1 = 0) (hh : i_h e = h) : CV (l ++ [e]) (ct ++ [l.length]) (l.length :: h) ci (sI (sI (sI σ 34 ci ct.length (Int32.ofNat (pos vC l l.length))) 10 ci 10 (Int32.ofNat (ct.length + 1))) 10 ci 12 (Int32.ofNat ct.length)) := by
  obtain ⟨a1, a2, a3, a4, a5, a6, a7⟩ := q
  have okh := a7.2.2
  have hv : ¬ vC e.1 = true := by rw [he]; decide
  have hn : pos vC (l ++ [e]) (l ++ [e]).length = pos vC l l.length := by rw [pos_L, if_neg hv]; rfl
  refine ⟨?_, fun k x hk hx => ?_, ?_, fun j t hj => ?_, ?_, ?_, ?_⟩
  · rw [gI, if_neg (by omega), gI, if_neg (by omega), gI, if_neg (by omega), hn]; exact a1
  · rcases Nat.lt_or_ge k l.length with z | z
    · rw [List.getElem?_append_left z] at hk
      obtain ⟨b1, b2, b3, b4⟩ := a2 k x hk hx
      obtain ⟨o1, o2⟩ := a7.1 x (List.mem_of_getElem? hk)
      rw [pos_app (by omega)]
      refine ⟨?_, ?_, ?_, ?_⟩
      · rw [gI, if_neg (by omega), gI, if_neg (by omega), gI, if_neg (by omega)]; exact b1
      · rw [gI, if_neg (by omega), gI, if_neg (by omega), gI, if_neg (by omega), b2]; unfold cArg; rw [pos_app o1]
      · rw [gI, if_neg (by omega), gI, if_neg (by omega), gI, if_neg (by omega)]; exact b3
      · rw [gI, if_neg (by omega), gI, if_neg (by omega), gI, if_neg (by omega), b4, ctr_app o2]
    · exfalso
      have hk2 : k = l.length := by
        have := (List.getElem?_eq_some_iff.mp hk).1
        rw [List.length_append] at this
        have : k < l.length + 1 := this
        omega
      subst hk2
      have hx2 : x = e := by simp at hk; exact hk.symm
      subst hx2
      exact hv hx
  · rw [gI, if_neg (by omega), gI, if_pos ⟨rfl, rfl, rfl⟩, List.length_append]; rfl
  · rcases Nat.lt_or_ge j ct.length with z | z
    · rw [List.getElem?_append_left z] at hj
      rw [gI, if_neg (by omega), gI, if_neg (by omega), gI, if_neg (by omega), pos_app (a7.2.1 t (List.mem_of_getElem? hj))]; exact a4 j t hj
    · have hk2 : j = ct.length := by
        have := (List.getElem?_eq_some_iff.mp hj).1
        rw [List.length_append] at this
        have : j < ct.length + 1 := this
        omega
      subst hk2
      have hx2 : t = l.length := by simp at hj; exact hj.symm
      subst hx2
      rw [gI, if_neg (by omega), gI, if_neg (by omega), gI, if_pos ⟨rfl, rfl, rfl⟩, pos_app (Nat.le_refl _)]
  · rw [gI, if_pos ⟨rfl, rfl, rfl⟩]
    show _ = Int32.ofNat (pos vT (l ++ [e]) l.length)
    rw [pos_app (Nat.le_refl _), a6]
  · rw [List.length_append, pos_L, if_pos (by rw [he]; rfl), a6]; rfl
  · obtain ⟨g1, g2, g3⟩ := okL_app (e := e) a7 ⟨by omega, fun k hk => by rw [hh] at hk; have := okh k hk; omega⟩
    have hl : (l ++ [e]).length = l.length + 1 := by rw [List.length_append]; rfl
    refine ⟨g1, fun t ht => ?_, fun k hk => ?_⟩
    · rcases List.mem_append.mp ht with z | z
      · exact g2 t z
      · rcases List.mem_singleton.mp z with rfl; rw [hl]; omega
    · rcases List.mem_cons.mp hk with z | z
      · rw [z, hl]; omega
      · exact g3 k z
/-- a try's block ends -/
theorem CV_tried {e : zI} {h' : List Nat} {x : Int32} (q : CV l ct h ci σ) (he : e.1 = 34) (ht : e.2.2.1 = 0) (hh : i_h e = h) (hh' : ∀ k ∈ h', k ≤ l.length) (hx : x = ctr l h') : CV (l ++ [e]) ct h' ci (sI σ 10 ci 12 x) := by
  subst hx
  obtain ⟨a1, a2, a3, a4, a5, a6, a7⟩ := q
  have okh := a7.2.2
  have hv : ¬ vC e.1 = true := by rw [he]; decide
  have hn : pos vC (l ++ [e]) (l ++ [e]).length = pos vC l l.length := by rw [pos_L, if_neg hv]; rfl
  refine ⟨?_, fun k x hk hx => ?_, ?_, fun j t hj => ?_, ?_, ?_, ?_⟩
  · rw [gI, if_neg (by omega), hn]; exact a1
  · rcases Nat.lt_or_ge k l.length with z | z
    · rw [List.getElem?_append_left z] at hk
      obtain ⟨b1, b2, b3, b4⟩ := a2 k x hk hx
      obtain ⟨o1, o2⟩ := a7.1 x (List.mem_of_getElem? hk)
      rw [pos_app (by omega)]
      refine ⟨?_, ?_, ?_, ?_⟩
      · rw [gI, if_neg (by omega)]; exact b1
      · rw [gI, if_neg (by omega), b2]; unfold cArg; rw [pos_app o1]
      · rw [gI, if_neg (by omega)]; exact b3
      · rw [gI, if_neg (by omega), b4, ctr_app o2]
    · exfalso
      have hk2 : k = l.length := by
        have := (List.getElem?_eq_some_iff.mp hk).1
        rw [List.length_append] at this
        have : k < l.length + 1 := this
        omega
      subst hk2
      have hx2 : x = e := by simp at hk; exact hk.symm
      subst hx2
      exact hv hx
  · rw [gI, if_neg (by omega)]; exact a3
  · rw [gI, if_neg (by omega), pos_app (a7.2.1 t (List.mem_of_getElem? hj))]; exact a4 j t hj
  · rw [gI, if_pos ⟨rfl, rfl, rfl⟩, ctr_app hh']
  · rw [pos_L, if_neg (by rw [he]; decide)]; exact a6
  · obtain ⟨g1, g2, g3⟩ := okL_app (e := e) a7 ⟨by omega, fun k hk => by rw [hh] at hk; have := okh k hk; omega⟩
    refine ⟨g1, g2, fun k hk => ?_⟩
    rw [List.length_append]; have := hh' k hk; omega
/-- a try's catch is told -/
theorem CV_cat {k j : Nat} {x : Int32} {e : zI} (q : CV l ct h ci σ) (hk : l[k]? = some e) (he : e.1 = 33) (hj : j < ct.length) : CV (l.modify k (fun e => (e.1, x, l.length, e.2.2.2))) (ct.set j l.length) h ci (sI σ 34 ci j (Int32.ofNat (pos vC l l.length))) := by
  obtain ⟨a1, a2, a3, a4, a5, a6, a7⟩ := q
  have hf : ∀ e : zI, ((fun e : zI => ((e.1, x, l.length, e.2.2.2) : zI)) e).1 = e.1 := fun _ => rfl
  refine ⟨?_, fun i y hi hy => ?_, ?_, fun i t hi => ?_, ?_, ?_, ?_⟩
  · rw [gI, if_neg (by omega), List.length_modify, pos_mod hf]; exact a1
  · rw [List.getElem?_modify] at hi
    cases hz : l[i]? with
    | none => rw [hz] at hi; cases hi
    | some z =>
      rw [hz] at hi
      by_cases w : k = i
      · exfalso
        simp [w] at hi
        have : z = e := by rw [← w] at hz; exact Option.some.inj (hz.symm.trans hk)
        rw [← hi, this, he] at hy
        exact absurd hy (by decide)
      · simp [w] at hi
        rw [← hi] at hy ⊢
        obtain ⟨b1, b2, b3, b4⟩ := a2 i z hz hy
        rw [pos_mod hf]
        refine ⟨by rw [gI, if_neg (by omega)]; exact b1, ?_, by rw [gI, if_neg (by omega)]; exact b3, by rw [gI, if_neg (by omega), ctr_mod hf]; exact b4⟩
        rw [gI, if_neg (by omega), b2]; unfold cArg; rw [pos_mod hf]
  · rw [gI, if_neg (by omega), List.length_set]; exact a3
  · rw [pos_mod hf]
    rw [List.getElem?_set] at hi
    by_cases w : j = i
    · rw [if_pos w, if_pos (by omega)] at hi
      rw [gI, if_pos ⟨rfl, rfl, w.symm⟩, ← Option.some.inj hi]
    · rw [if_neg w] at hi
      rw [gI, if_neg (by omega)]; exact a4 i t hi
  · rw [gI, if_neg (by omega), ctr_mod hf]; exact a5
  · rw [List.length_modify, pos_mod hf, List.length_set]; exact a6
  · obtain ⟨g1, g2, g3⟩ := a7
    unfold okL
    rw [List.length_modify]
    refine ⟨fun y hy => ?_, fun t ht => ?_, g3⟩
    · obtain ⟨i, hi⟩ := List.mem_iff_getElem?.mp hy
      rw [List.getElem?_modify] at hi
      cases hz : l[i]? with
      | none => rw [hz] at hi; cases hi
      | some z =>
        rw [hz] at hi
        obtain ⟨o1, o2⟩ := g1 z (List.mem_of_getElem? hz)
        by_cases w : k = i
        · simp [w] at hi
          rw [← hi]
          exact ⟨Nat.le_refl _, o2⟩
        · simp [w] at hi
          rw [← hi]
          exact ⟨o1, o2⟩
    · rcases List.mem_or_eq_of_mem_set ht with w | w
      · exact g2 t w
      · rw [w]; exact Nat.le_refl _
end
