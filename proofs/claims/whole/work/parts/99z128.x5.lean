section
/-! one more item; an item is aimed -/
variable {l m : List zI} {ps ps' : List zP} {ct ct' : List Nat} {og og' : Option zG} {g g' : zG} {e : zI} {k j : Nat} {P : List Nat} {a b : zA}
theorem get_app {x : zI} (h : l[j]? = some x) : (l ++ m)[j]? = some x := by
  rw [List.getElem?_append_left (List.getElem?_eq_some_iff.mp h).1]; exact h
theorem get_end : (l ++ [e])[l.length]? = some e := by simp
theorem Ext_app (h2 : e.1 ≠ 2) (hg : i_g e = g) : Ext P l ps ct (some g) (l ++ [e]) ps ct og' := by
  refine ⟨fun j x h => ?_, fun j x h => ⟨x, get_app h, rfl, rfl, fun _ => rfl⟩, fun _ _ h => h, fun k x t hk _ _ ht => ?_⟩
  · rcases h with ⟨y, h1, h2, h3⟩ | ⟨h1, g', h3, h4⟩
    · exact Or.inl ⟨y, get_app h1, h2, h3⟩
    · subst h1
      cases h3
      exact Or.inl ⟨e, get_end, h2, by rw [hg]; exact h4⟩
  · rw [pos_app (Nat.le_of_lt (List.getElem?_eq_some_iff.mp hk).1)]; exact ht
theorem Ext_app0 : Ext P l ps ct none (l ++ [e]) ps ct og' := by
  refine ⟨fun j x h => ?_, fun j x h => ⟨x, get_app h, rfl, rfl, fun _ => rfl⟩, fun _ _ h => h, fun k x t hk _ _ ht => ?_⟩
  · rcases h with ⟨y, h1, h2, h3⟩ | ⟨h1, g', h3, h4⟩
    · exact Or.inl ⟨y, get_app h1, h2, h3⟩
    · cases h3
  · rw [pos_app (Nat.le_of_lt (List.getElem?_eq_some_iff.mp hk).1)]; exact ht
theorem Ext_w (hg : gFits g g') : Ext P l ps ct (some g) l ps ct (some g') := by
  refine ⟨fun j x h => ?_, fun j x h => ⟨x, h, rfl, rfl, fun _ => rfl⟩, fun _ _ h => h, fun k x t hk _ _ ht => ht⟩
  rcases h with h | ⟨h1, g'', h3, h4⟩
  · exact Or.inl h
  · cases h3; exact Or.inr ⟨h1, g', rfl, h4.trans hg⟩
/-- nobody comes to the end -/
theorem Lands_n (h : Lands l none j g) : Lands l og' j g := by
  rcases h with h | ⟨h1, g', h3, h4⟩
  · exact Or.inl h
  · cases h3
theorem Ext_n : Ext P l ps ct none l ps ct og' := ⟨fun _ _ h => Lands_n h, fun _ x h => ⟨x, h, rfl, rfl, fun _ => rfl⟩, fun _ _ h => h, fun _ _ _ _ _ _ ht => ht⟩
theorem WT_ext (h : WT l ps ct og P) (E : Ext P l ps ct og l ps' ct' og') : WT l ps' ct' og' P := fun k e hk => ⟨bOk_e (E := E) (h k e hk).1, fun hP => jOk_e (E := E) hk hP ((h k e hk).2 hP)⟩
theorem WT_app (h : WT l ps ct og P) (E : Ext P l ps ct og (l ++ [e]) ps ct' og') (hb : bOk ps (l ++ [e]) og' l.length e) (hj : l.length ∉ P → jOk (l ++ [e]) og' ct' l.length e) : WT (l ++ [e]) ps ct' og' P := by
  intro k x hk
  rcases Nat.lt_or_ge k l.length with z | z
  · rw [List.getElem?_append_left z] at hk
    exact ⟨bOk_e (E := E) (h k x hk).1, fun hP => jOk_e (E := E) hk hP ((h k x hk).2 hP)⟩
  · have hl := (List.getElem?_eq_some_iff.mp hk).1
    rw [List.length_append] at hl
    have hl : k < l.length + 1 := hl
    have : k = l.length := by omega
    subst this
    rw [get_end] at hk
    cases hk
    exact ⟨hb, hj⟩
theorem get_mod {f : zI → zI} {x : zI} (h : l[j]? = some x) : (l.modify k f)[j]? = some (if k = j then f x else x) := by
  rw [List.getElem?_modify, h]; by_cases q : k = j <;> simp [q]
theorem Ext_mod {f : zI → zI} (hf : ∀ x, (f x).1 = x.1 ∧ i_g (f x) = i_g x) (ha : ∀ x, l[k]? = some x → x.1 ≠ 33 → (f x).2.1 = x.2.1) (hc : ∀ (j : Nat) (x : zI) (t : Nat), l[j]? = some x → x.1 = 33 → j ∉ P → ct[pos vT l j]? = some t → ct'[pos vT l j]? = some t) : Ext P l ps ct og (l.modify k f) ps ct' og := by
  refine ⟨fun j x h => ?_, fun j x h => ⟨_, get_mod h, ?_, ?_, fun z => ?_⟩, fun _ _ h => h, fun j x t hk h33 hP ht => ?_⟩
  · rcases h with ⟨y, h1, h2, h3⟩ | ⟨h1, g', h3, h4⟩
    · refine Or.inl ⟨_, get_mod h1, ?_, ?_⟩
      · split
        · rw [(hf y).1]; exact h2
        · exact h2
      · split
        · rw [(hf y).2]; exact h3
        · exact h3
    · exact Or.inr ⟨by rw [List.length_modify]; exact h1, g', h3, h4⟩
  · split
    · exact (hf x).1
    · rfl
  · split
    · exact (hf x).2
    · rfl
  · split
    · rename_i q
      subst q
      exact ha x h z
    · rfl
  · rw [pos_mod (fun e => (hf e).1)]
    exact hc j x t hk h33 hP ht
theorem tOk_33 {arg ty pl : Int32} {tgt : Nat} : tOk ps (33, arg, tgt, pl, ty, g) ↔ g.1 = [] := Iff.rfl
theorem gNx_33 {arg ty pl : Int32} {tgt : Nat} : gNx ps k (33, arg, tgt, pl, ty, g) = (g.1, g.2.1, g.2.2.1, k :: g.2.2.2) := rfl
theorem tOk_c {op : Nat} {arg ty pl pl' : Int32} {tgt tgt' : Nat} : tOk ps (op, arg, tgt, pl, ty, g) ↔ tOk ps (op, arg, tgt', pl', ty, g) := Iff.rfl
theorem gNx_c {op : Nat} {arg ty pl pl' : Int32} {tgt tgt' : Nat} : gNx ps k (op, arg, tgt, pl, ty, g) = gNx ps k (op, arg, tgt', pl', ty, g) := rfl
/-- a jump is aimed -/
theorem WT_aim {f : zI → zI} {x : zI} (h : WT l ps ct og (k :: P)) (hx : l[k]? = some x) (hf : ∀ x, (f x).1 = x.1 ∧ i_g (f x) = i_g x ∧ (f x).2.2.2.2.1 = x.2.2.2.2.1) (ho : x.1 = 0 ∨ x.1 = 26 ∨ x.1 = 33) (ha : x.1 ≠ 33 → (f x).2.1 = x.2.1) (hc : ∀ (j : Nat) (x : zI) (t : Nat), l[j]? = some x → x.1 = 33 → j ∉ k :: P → ct[pos vT l j]? = some t → ct'[pos vT l j]? = some t) (hj : jOk (l.modify k f) og ct' k (f x)) : WT (l.modify k f) ps ct' og P := by
  have E : Ext (k :: P) l ps ct og (l.modify k f) ps ct' og := Ext_mod (fun x => ⟨(hf x).1, (hf x).2.1⟩) (fun y hy => by rw [hx] at hy; cases hy; exact ha) hc
  intro j y hy
  have hlj : j < l.length := by have := (List.getElem?_eq_some_iff.mp hy).1; rw [List.length_modify] at this; exact this
  obtain ⟨y0, hy0⟩ : ∃ y0, l[j]? = some y0 := ⟨_, List.getElem?_eq_getElem hlj⟩
  rw [get_mod hy0] at hy
  have hy := Option.some.inj hy
  obtain ⟨hb, hjj⟩ := h j y0 hy0
  by_cases q : k = j
  · subst q
    rw [hx] at hy0; cases hy0
    rw [if_pos rfl] at hy
    subst hy
    refine ⟨?_, fun _ => hj⟩
    obtain ⟨b1, b2, b3, b4, b5⟩ := bOk_e (E := E) hb
    obtain ⟨q1, q2, q3⟩ := hf x
    generalize hz : f x = z at q1 q2 q3 ha
    obtain ⟨zo, za, zt, zp, zy, zg⟩ := z
    obtain ⟨xo, xa, xt, xp, xy, xg⟩ := x
    have q1 : zo = xo := q1
    have q2 : zg = xg := q2
    have q3 : zy = xy := q3
    have ho : xo = 0 ∨ xo = 26 ∨ xo = 33 := ho
    subst q1 q2 q3
    by_cases q33 : zo = 33
    · subst q33
      exact ⟨b1, b2, b3, tOk_33.mpr (tOk_33.mp b4), fun z => by rw [gNx_33]; have b5 := b5 z; rw [gNx_33] at b5; exact b5⟩
    · have : za = xa := ha q33
      subst this
      exact ⟨b1, b2, b3, tOk_c.mp b4, fun z => by rw [gNx_c (tgt' := xt) (pl' := xp)]; exact b5 z⟩
  · rw [if_neg q] at hy
    subst hy
    exact ⟨bOk_e (E := E) hb, fun hP => jOk_e (E := E) hy0 (fun z => (List.mem_cons.mp z).elim (fun z => q z.symm) hP) (hjj (fun z => (List.mem_cons.mp z).elim (fun z => q z.symm) hP))⟩
/-! the same at a state of the reading -/
def WTa (P : List Nat) (a : zA) : Prop := WT (a_i a) (a_q a) (a_c a) (some (gNow a)) P ∧ hOk (a_i a) (gNow a) ∧ ∀ x ∈ (gNow a).2.1, x.1 < 24
theorem hOk_w (h : hOk l g) (hk : ∀ x ∈ g.2.1, x ∈ g'.2.1) (h1 : g'.2.2.1 = g.2.2.1) (h2 : g'.2.2.2 = g.2.2.2) : hOk l g' := by
  intro j H hj
  obtain ⟨e, f1, f2, f3, f4, f5⟩ := h j H (h2 ▸ hj)
  exact ⟨e, f1, f2, f3, fun x hx => hk x (f4 x hx), f5.trans h1.symm⟩
/-- an item that goes on -/
theorem WTa_app {op : Nat} {arg ty pl : Int32} (h : WTa P a) (hi : a_i b = a_i a ++ [(op, arg, 0, pl, ty, gNow a)]) (hq : a_q b = a_q a) (hc : a_c b = a_c a) (hl : (a_t a).length ≤ 80) (h2 : op ≠ 2) (ho : op ≠ 0 ∧ op ≠ 26 ∧ op ≠ 33) (ht : tOk (a_q a) (op, arg, 0, pl, ty, gNow a)) (hf : falls op = true → gFits (gNx (a_q a) (zL a) (op, arg, 0, pl, ty, gNow a)) (gNow b)) (hh : hOk (a_i b) (gNow b)) (hs : ∀ x ∈ (gNow b).2.1, x.1 < 24) : WTa P b := by
  obtain ⟨w1, w2, w3⟩ := h
  refine ⟨?_, hh, hs⟩
  rw [hq, hc, hi]
  have E : Ext P (a_i a) (a_q a) (a_c a) (some (gNow a)) (a_i a ++ [(op, arg, 0, pl, ty, gNow a)]) (a_q a) (a_c a) (some (gNow b)) := Ext_app h2 rfl
  refine WT_app w1 E ⟨hl, w3, hOk_e (E := E) w2, ht, fun z => ?_⟩ (fun _ => ?_)
  · exact Or.inr ⟨by simp, _, rfl, hf z⟩
  · unfold jOk
    split
    · rename_i z; exact absurd z ho.1
    · rename_i z; exact absurd z ho.2.1
    · rename_i z; exact absurd z ho.2.2
    · trivial
end
