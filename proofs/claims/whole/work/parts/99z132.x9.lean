section
/-! JUMPS THAT WAIT FOR THEIR AIM -/
variable {l m : List zI} {ps ps' : List zP} {ct ct' : List Nat} {og og' : Option zG} {g g' : zG} {e x : zI} {k j : Nat} {P : List Nat} {a b c : zA}
theorem LM.refl (a : zA) : LM a a := fun _ _ h => h
theorem LM.trans (h : LM a b) (k : LM b c) : LM a c := fun j g z => k j g (h j g z)
theorem get_pr (h : l <+: m) (hj : l[j]? = some e) : m[j]? = some e := by
  obtain ⟨t, rfl⟩ := h; exact get_app hj
theorem hOk_pre (h : hOk l g) (hp : l <+: m) : hOk m g := by
  intro j H hj
  obtain ⟨e, f1, f2⟩ := h j H hj
  exact ⟨e, get_pr hp f1, f2⟩
theorem WT_unp (h : WT l ps ct og (k :: P)) (hj : ∀ e, l[k]? = some e → jOk l og ct k e) : WT l ps ct og P := fun i e hi => ⟨(h i e hi).1, fun hP => by
  by_cases q : i = k
  · subst q; exact hj e hi
  · exact (h i e hi).2 (fun z => (List.mem_cons.mp z).elim q hP)⟩
theorem WT_sub {P' : List Nat} (h : WT l ps ct og P) (hP : ∀ k ∈ P, k ∈ P') : WT l ps ct og P' := fun i e hi => ⟨(h i e hi).1, fun z => (h i e hi).2 (fun y => z (hP i y))⟩
/-- an item is changed that waits for its aim, and waits on -/
theorem WT_modk {f : zI → zI} (h : WT l ps ct og (k :: P)) (hx : l[k]? = some x) (hf : ∀ x, (f x).1 = x.1 ∧ i_g (f x) = i_g x ∧ (f x).2.2.2.2.1 = x.2.2.2.2.1) (ha : x.1 ≠ 33 → (f x).2.1 = x.2.1) (hc : ∀ (j : Nat) (x : zI) (t : Nat), l[j]? = some x → x.1 = 33 → j ∉ k :: P → ct[pos vT l j]? = some t → ct'[pos vT l j]? = some t) : WT (l.modify k f) ps ct' og (k :: P) := by
  have E : Ext (k :: P) l ps ct og (l.modify k f) ps ct' og := Ext_mod (fun x => ⟨(hf x).1, (hf x).2.1⟩) (fun y hy => by rw [hx] at hy; cases hy; exact ha) hc
  intro j y hy
  have hlj : j < l.length := by have := (List.getElem?_eq_some_iff.mp hy).1; rw [List.length_modify] at this; exact this
  obtain ⟨y0, hy0⟩ : ∃ y0, l[j]? = some y0 := ⟨_, List.getElem?_eq_getElem hlj⟩
  rw [get_mod hy0] at hy
  have hy := Option.some.inj hy
  obtain ⟨hb, hjj⟩ := h j y0 hy0
  by_cases q : k = j
  · subst q
    rw [hx] at hy0; cases hy0
    rw [if_pos rfl] at hy
    subst hy
    refine ⟨?_, fun z => absurd List.mem_cons_self z⟩
    obtain ⟨b1, b2, b3, b4, b5⟩ := bOk_e (E := E) hb
    obtain ⟨q1, q2, q3⟩ := hf x
    generalize hz : f x = z at q1 q2 q3 ha
    obtain ⟨zo, za, zt, zp, zy, zg⟩ := z
    obtain ⟨xo, xa, xt, xp, xy, xg⟩ := x
    have q1 : zo = xo := q1
    have q2 : zg = xg := q2
    have q3 : zy = xy := q3
    subst q1 q2 q3
    by_cases q33 : zo = 33
    · subst q33
      exact ⟨b1, b2, b3, tOk_33.mpr (tOk_33.mp b4), fun z => by rw [gNx_33]; have b5 := b5 z; rw [gNx_33] at b5; exact b5⟩
    · have : za = xa := ha q33
      subst this
      exact ⟨b1, b2, b3, tOk_c.mp b4, fun z => by rw [gNx_c (tgt' := xt) (pl' := xp)]; exact b5 z⟩
  · rw [if_neg q] at hy
    subst hy
    exact ⟨bOk_e (E := E) hb, fun hP => jOk_e (E := E) hy0 hP (hjj hP)⟩
theorem WTa_pend {op : Nat} {arg ty pl : Int32} (h : WTa P a) (hi : a_i b = a_i a ++ [(op, arg, 0, pl, ty, gNow a)]) (hq : a_q b = a_q a) (hc : ∀ (j t : Nat), (a_c a)[j]? = some t → (a_c b)[j]? = some t) (hl : (a_t a).length ≤ 80) (h2 : op ≠ 2) (ht : tOk (a_q a) (op, arg, 0, pl, ty, gNow a)) (hf : falls op = true → gFits (gNx (a_q a) (zL a) (op, arg, 0, pl, ty, gNow a)) (gNow b)) (hh : hOk (a_i b) (gNow b)) (hs : ∀ x ∈ (gNow b).2.1, x.1 < 24) : WTa (zL a :: P) b ∧ LM a b := by
  obtain ⟨w1, w2, w3⟩ := h
  have E0 : Ext (zL a :: P) (a_i a) (a_q a) (a_c a) (some (gNow a)) (a_i a ++ [(op, arg, 0, pl, ty, gNow a)]) (a_q a) (a_c a) (some (gNow b)) := Ext_app h2 rfl
  have E : Ext (zL a :: P) (a_i a) (a_q a) (a_c a) (some (gNow a)) (a_i a ++ [(op, arg, 0, pl, ty, gNow a)]) (a_q a) (a_c b) (some (gNow b)) := ⟨E0.1, E0.2.1, E0.2.2.1, fun k e t h1 h2 h3 h4 => hc _ _ (E0.2.2.2 k e t h1 h2 h3 h4)⟩
  refine ⟨⟨?_, hh, hs⟩, ?_⟩
  · rw [hq, hi]
    refine WT_app (WT_sub w1 (fun k hk => List.mem_cons_of_mem _ hk)) E ⟨hl, w3, hOk_e (E := E) w2, ht, fun z => ?_⟩ (fun z => absurd List.mem_cons_self z)
    exact Or.inr ⟨by simp, _, rfl, hf z⟩
  · intro j g z
    rw [hi]; exact E0.1 j g z
/-- a jump is aimed at where the code ends now -/
theorem WTa_aimE (h : WTa (k :: P) a) (hx : (a_i a)[k]? = some x) (ho : (x.1 = 0 ∧ (i_g x).1 = []) ∨ x.1 = 26) (hg : gFits ([], (i_g x).2) (gNow a)) : WTa P (zX a k (zL a)) ∧ LM a (zX a k (zL a)) := by
  obtain ⟨w1, w2, w3⟩ := h
  have hf : ∀ x : zI, ((fun e : zI => ((e.1, e.2.1, zL a, e.2.2.2) : zI)) x).1 = x.1 ∧ i_g ((fun e : zI => ((e.1, e.2.1, zL a, e.2.2.2) : zI)) x) = i_g x ∧ ((fun e : zI => ((e.1, e.2.1, zL a, e.2.2.2) : zI)) x).2.2.2.2.1 = x.2.2.2.2.1 := fun x => ⟨rfl, rfl, rfl⟩
  have E : Ext (k :: P) (a_i a) (a_q a) (a_c a) (some (gNow a)) ((a_i a).modify k (fun e => (e.1, e.2.1, zL a, e.2.2.2))) (a_q a) (a_c a) (some (gNow a)) := Ext_mod (fun x => ⟨(hf x).1, (hf x).2.1⟩) (fun y _ _ => rfl) (fun _ _ _ _ _ _ h => h)
  have hk := (List.getElem?_eq_some_iff.mp hx).1
  have hL : ∀ g, gFits g (gNow a) → Lands ((a_i a).modify k (fun e => (e.1, e.2.1, zL a, e.2.2.2))) (some (gNow a)) (zL a) g := fun g hg => Or.inr ⟨by rw [List.length_modify]; rfl, _, rfl, hg⟩
  refine ⟨⟨?_, hOk_e (E := E) w2, w3⟩, E.1⟩
  refine WT_aim w1 hx hf (by rcases ho with q | q; exact Or.inl q.1; exact Or.inr (Or.inl q)) (fun _ => rfl) (fun _ _ _ _ _ _ h => h) ?_
  obtain ⟨xo, xa, xt, xp, xy, xg⟩ := x
  rcases ho with ⟨q, qs⟩ | q
  · have q : xo = 0 := q
    subst q
    refine ⟨hL _ ?_, Or.inl hk⟩
    have qs : xg.1 = [] := qs
    have hg : gFits ([], xg.2) (gNow a) := hg
    show gFits xg (gNow a)
    rw [← qs] at hg; exact hg
  · have q : xo = 26 := q
    subst q
    exact ⟨hL _ hg, hk⟩
end
