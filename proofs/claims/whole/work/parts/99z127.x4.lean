section
/-! WELL-TYPED CODE: what each item wants of the types ahead of it, where it goes, and that these fit -/
variable {l m : List zI} {ps ps' : List zP} {ct ct' : List Nat} {og og' : Option zG} {g g' : zG} {e : zI} {k j : Nat} {P : List Nat}
def gFits (g g' : zG) : Prop := g'.1 = g.1 ∧ (∀ x ∈ g'.2.1, x ∈ g.2.1) ∧ g'.2.2.1 = g.2.2.1 ∧ g'.2.2.2 = g.2.2.2
theorem gFits.refl (g : zG) : gFits g g := ⟨rfl, fun _ h => h, rfl, rfl⟩
theorem gFits.trans {g1 g2 g3 : zG} (h : gFits g1 g2) (k : gFits g2 g3) : gFits g1 g3 := ⟨k.1.trans h.1, fun x hx => h.2.1 x (k.2.1 x hx), k.2.2.1.trans h.2.2.1, k.2.2.2.trans h.2.2.2⟩
/-- one who comes to place j with g finds what he wants there -/
def Lands (l : List zI) (og : Option zG) (j : Nat) (g : zG) : Prop := (∃ e, l[j]? = some e ∧ e.1 ≠ 2 ∧ gFits g (i_g e)) ∨ (j = l.length ∧ ∃ g', og = some g' ∧ gFits g g')
def isAct (op : Nat) : Prop := 4 ≤ op ∧ op < 33
def gSet (s : Nat) (t : Int32) (K : List (Nat × Int32)) : List (Nat × Int32) := (s, t) :: K.filter (fun x => x.1 != s)
/-- what is known behind an item -/
def gNx (ps : List zP) (k : Nat) (e : zI) : zG := match e.1 with
  | 6 => ((i_g e).1.drop 1, gSet e.2.1.toNatClampNeg e.2.2.2.2.1 (i_g e).2.1, (i_g e).2.2)
  | 2 => ((i_g e).1, gSet e.2.1.toNatClampNeg 36 (i_g e).2.1, (i_g e).2.2)
  | 33 => ((i_g e).1, (i_g e).2.1, (i_g e).2.2.1, k :: (i_g e).2.2.2)
  | 34 => ((i_g e).1, (i_g e).2.1, (i_g e).2.2.1, (i_g e).2.2.2.tail)
  | _ => (effS ps e.1 e.2.1 e.2.2.2.2.1 (i_g e).1, (i_g e).2)
def falls (op : Nat) : Bool := !(op == 0 || op == 3 || op == 24 || op == 25)
def fitAll (us ts : List Int32) : Prop := us.length = ts.length ∧ ∀ (i : Nat) (u t : Int32), us[i]? = some u → ts[i]? = some t → cFit u t = 1
/-- the types that an item wants -/
def tOk (ps : List zP) (e : zI) : Prop := match e.1 with
  | 0 => (i_g e).1 = []
  | 1 => ∃ t S, (i_g e).1 = t :: S ∧ t ≠ 38
  | 2 => (i_g e).1 = [] ∧ ∃ s, s < 24 ∧ e.2.1 = Int32.ofNat s
  | 4 => e.2.2.2.2.1 = 36 ∨ (e.2.2.2.2.1 = 37 ∧ e.2.1 = 0)
  | 5 => ∃ s, e.2.1 = Int32.ofNat s ∧ (s, e.2.2.2.2.1) ∈ (i_g e).2.1
  | 6 => (∃ t S, (i_g e).1 = t :: S ∧ cFit t e.2.2.2.2.1 = 1) ∧ ∃ s, s < 24 ∧ e.2.1 = Int32.ofNat s
  | 7 => ∃ S, (i_g e).1 = 36 :: 36 :: S ∧ e.2.2.2.2.1 = 36
  | 8 => ∃ S, (i_g e).1 = 36 :: 36 :: S ∧ e.2.2.2.2.1 = 36
  | 9 => ∃ S, (i_g e).1 = 36 :: 36 :: S ∧ e.2.2.2.2.1 = 36
  | 10 => ∃ u t S, (i_g e).1 = u :: t :: S ∧ ((t = 36 ∧ u = 36) ∨ (cRef t = 1 ∧ cRef u = 1)) ∧ e.2.2.2.2.1 = 36
  | 11 => ∃ u t S, (i_g e).1 = u :: t :: S ∧ ((t = 36 ∧ u = 36) ∨ (cRef t = 1 ∧ cRef u = 1)) ∧ e.2.2.2.2.1 = 36
  | 12 => ∃ S, (i_g e).1 = 36 :: 36 :: S ∧ e.2.2.2.2.1 = 36
  | 13 => ∃ t S, (i_g e).1 = t :: S ∧ cAsk t e.2.1 = 1 ∧ e.2.2.2.2.1 = e.2.1 ∧ ∃ n, n < 36 ∧ e.2.1 = Int32.ofNat n
  | 14 => ∃ t S, (i_g e).1 = t :: S ∧ cAsk t e.2.1 = 1 ∧ e.2.2.2.2.1 = 36 ∧ ∃ n, n < 36 ∧ e.2.1 = Int32.ofNat n
  | 15 => ∃ t S, (i_g e).1 = 36 :: t :: S ∧ (¬ t < 18 ∧ t < 36) ∧ e.2.2.2.2.1 = t - 18
  | 16 => ∃ u t S, (i_g e).1 = u :: 36 :: t :: S ∧ (¬ t < 18 ∧ t < 36) ∧ cFit u (t - 18) = 1
  | 17 => ∃ t S, (i_g e).1 = t :: S ∧ (∃ f, f < 9 ∧ e.2.1 = Int32.ofNat f) ∧ cFit t (fOwn e.2.1) = 1 ∧ e.2.2.2.2.1 = if e.2.1 = 1 then 0 else 36
  | 18 => ∃ u t S, (i_g e).1 = u :: t :: S ∧ (∃ f, f < 9 ∧ e.2.1 = Int32.ofNat f) ∧ ¬ (e.2.1 = 2 ∨ e.2.1 = 3 ∨ e.2.1 = 4) ∧ cFit t (fOwn e.2.1) = 1 ∧ cFit u (if e.2.1 = 1 then 0 else 36) = 1
  | 19 => ∃ t S, (i_g e).1 = t :: S ∧ (¬ t < 18 ∧ t < 36) ∧ e.2.2.2.2.1 = 36
  | 20 => ∃ n, n < 13 ∧ e.2.1 = Int32.ofNat n ∧ e.2.2.2.2.1 = e.2.1
  | 21 => ∃ S n, (i_g e).1 = 36 :: S ∧ n < 18 ∧ e.2.1 = Int32.ofNat n ∧ e.2.2.2.2.1 = 18 + e.2.1
  | 22 => ∃ S, (i_g e).1 = 36 :: S
  | 23 => ∃ t S, (i_g e).1 = t :: S ∧ cRef t = 1
  | 24 => (e.2.1 = 1 ∧ (i_g e).2.2.1 ≠ 38 ∧ ∃ t S, (i_g e).1 = t :: S ∧ cFit t (i_g e).2.2.1 = 1) ∨ (e.2.1 = 0 ∧ (i_g e).2.2.1 = 38)
  | 25 => ∃ S, (i_g e).1 = 36 :: S
  | 26 => (i_g e).1 = [36]
  | 27 => ∃ q p us S, ps[q]? = some p ∧ q < 12 ∧ e.2.1 = Int32.ofNat (5 + q) ∧ (i_g e).1 = us.reverse ++ S ∧ fitAll us p.2.2.1 ∧ e.2.2.2.2.1 = p.2.1
  | 28 => ∃ S, (i_g e).1 = 36 :: S ∧ e.2.2.2.2.1 = 18
  | 29 => ∃ u S, (i_g e).1 = u :: 36 :: S ∧ cFit u 18 = 1 ∧ e.2.2.2.2.1 = 36
  | 30 => ∃ u t S, (i_g e).1 = u :: t :: S ∧ cFit u 18 = 1 ∧ cFit t 18 = 1 ∧ e.2.2.2.2.1 = 36
  | 31 => ∃ t S, (i_g e).1 = 36 :: 36 :: t :: S ∧ cFit t 18 = 1 ∧ e.2.2.2.2.1 = 36
  | 32 => e.2.2.2.2.1 = 36
  | 33 => (i_g e).1 = []
  | 34 => (i_g e).1 = [] ∧ ∃ j H, (i_g e).2.2.2 = j :: H
  | 35 => ∃ S, (i_g e).1 = 38 :: S
  | 3 => (i_g e).1 = []
  | _ => False
/-- the innermost try that is begun -/
def hOk (l : List zI) (g : zG) : Prop := ∀ j H, g.2.2.2 = j :: H → ∃ e, l[j]? = some e ∧ e.1 = 33 ∧ i_h e = H ∧ (∀ x ∈ (i_g e).2.1, x ∈ g.2.1) ∧ (i_g e).2.2.1 = g.2.2.1
/-- where jumps go -/
def jOk (l : List zI) (og : Option zG) (ct : List Nat) (k : Nat) (e : zI) : Prop := match e.1 with
  | 0 => Lands l og e.2.2.1 (i_g e) ∧ (k < e.2.2.1 ∨ ∃ e', l[e.2.2.1]? = some e' ∧ isAct e'.1)
  | 26 => Lands l og e.2.2.1 ([], (i_g e).2) ∧ k < e.2.2.1
  | 33 => ct[pos vT l k]? = some e.2.2.1 ∧ ∃ e', l[e.2.2.1]? = some e' ∧ e'.1 = 2 ∧ e'.2.1 = e.2.1 ∧ gFits (i_g e) (i_g e')
  | _ => True
def bOk (ps : List zP) (l : List zI) (og : Option zG) (k : Nat) (e : zI) : Prop := (i_g e).1.length ≤ 80 ∧ (∀ x ∈ (i_g e).2.1, x.1 < 24) ∧ hOk l (i_g e) ∧ tOk ps e ∧ (falls e.1 = true → Lands l og (k + 1) (gNx ps k e))
def WT (l : List zI) (ps : List zP) (ct : List Nat) (og : Option zG) (P : List Nat) : Prop := ∀ (k : Nat) (e : zI), l[k]? = some e → bOk ps l og k e ∧ (k ∉ P → jOk l og ct k e)
/-! what may change around an item -/
def Ext (P : List Nat) (l : List zI) (ps : List zP) (ct : List Nat) (og : Option zG) (m : List zI) (ps' : List zP) (ct' : List Nat) (og' : Option zG) : Prop :=
  (∀ j g, Lands l og j g → Lands m og' j g) ∧ (∀ (j : Nat) (e : zI), l[j]? = some e → ∃ e', m[j]? = some e' ∧ e'.1 = e.1 ∧ i_g e' = i_g e ∧ (e.1 ≠ 33 → e'.2.1 = e.2.1)) ∧ (∀ (q : Nat) (p : zP), ps[q]? = some p → ps'[q]? = some p) ∧ ∀ (k : Nat) (e : zI) (t : Nat), l[k]? = some e → e.1 = 33 → k ∉ P → ct[pos vT l k]? = some t → ct'[pos vT m k]? = some t
theorem hOk_e {E : Ext P l ps ct og m ps' ct' og'} (h : hOk l g) : hOk m g := by
  intro j H hj
  obtain ⟨e, h1, h2, h3, h4, h5⟩ := h j H hj
  obtain ⟨e', f1, f2, f3, -⟩ := E.2.1 j e h1
  refine ⟨e', f1, f2.trans h2, ?_, ?_, ?_⟩
  · show (i_g e').2.2.2 = H; rw [f3]; exact h3
  · rw [f3]; exact h4
  · rw [f3]; exact h5
theorem tOk_e {E : Ext P l ps ct og m ps' ct' og'} (h : tOk ps e) : tOk ps' e := by
  obtain ⟨op, arg, tgt, pl, ty, g⟩ := e
  by_cases q : op = 27
  · subst q
    obtain ⟨q, p, us, S, h1, h2⟩ := h
    exact ⟨q, p, us, S, E.2.2.1 q p h1, h2⟩
  · unfold tOk at h ⊢
    split at h <;> first | exact h | (exfalso; exact q (by assumption)) | skip
    all_goals first | exact h | (rename_i z; exact absurd z q)
theorem effS_ps {op : Nat} {arg ty : Int32} {S : List Int32} (h : op ≠ 27) : effS ps op arg ty S = effS ps' op arg ty S := by
  unfold effS zPops
  split <;> first | rfl | exact absurd rfl h
theorem gNx_e {E : Ext P l ps ct og m ps' ct' og'} (h : tOk ps e) : gNx ps' k e = gNx ps k e := by
  obtain ⟨op, arg, tgt, pl, ty, g⟩ := e
  by_cases q : op = 27
  · subst q
    obtain ⟨q, p, us, S, h1, h2, h3, -⟩ := h
    have h3 : arg = Int32.ofNat (5 + q) := h3
    subst h3
    have e1 : Int32.ofNat (5 + q) - 5 = Int32.ofNat q := i_sub (p := 5)
    have e2 : Int32.ofNat q < 12 := by rw [show (12 : Int32) = Int32.ofNat 12 from rfl, i_lt (by omega) (by omega)]; exact h2
    have e3 : (Int32.ofNat q).toNatClampNeg = q := i_tn (by omega)
    show (effS ps' 27 _ ty g.1, g.2) = (effS ps 27 _ ty g.1, g.2)
    unfold effS zPops
    dsimp only
    rw [e1]
    unfold qPar
    rw [if_pos e2, if_pos e2, e3, h1, E.2.2.1 q p h1]
  · unfold gNx
    split <;> first | rfl | (rw [effS_ps (ps := ps') (ps' := ps) q])
theorem bOk_e {E : Ext P l ps ct og m ps' ct' og'} (h : bOk ps l og k e) : bOk ps' m og' k e :=
  ⟨h.1, h.2.1, hOk_e (E := E) h.2.2.1, tOk_e (E := E) h.2.2.2.1, fun z => by rw [gNx_e (E := E) h.2.2.2.1]; exact E.1 _ _ (h.2.2.2.2 z)⟩
theorem jOk_e {E : Ext P l ps ct og m ps' ct' og'} (hk : l[k]? = some e) (hP : k ∉ P) (h : jOk l og ct k e) : jOk m og' ct' k e := by
  unfold jOk at h ⊢
  split at h
  · refine ⟨E.1 _ _ h.1, h.2.imp id (fun ⟨e', h1, h2⟩ => ?_)⟩
    obtain ⟨e'', f1, f2, -⟩ := E.2.1 _ _ h1
    exact ⟨e'', f1, by rw [f2]; exact h2⟩
  · exact ⟨E.1 _ _ h.1, h.2⟩
  · rename_i z
    obtain ⟨h1, e', h2, h3, h4, h5⟩ := h
    obtain ⟨e'', f1, f2, f3, f4⟩ := E.2.1 _ _ h2
    refine ⟨E.2.2.2 k e _ hk z hP h1, e'', f1, f2.trans h3, (f4 (by rw [h3]; decide)).trans h4, ?_⟩
    rw [f3]; exact h5
  · trivial
end
