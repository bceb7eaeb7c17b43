section
/-! THE FAULT STATE: f at pl is told, nothing is looked at any more; each method of the reader ends there again -/
variable {X : Nat × (Nat → Int32)} {d : Nat} {s σ : sm_S} {f pl : Int32} {ci : Nat} {O : Nat → Nat → Nat → Int32}
def fivG (i : Nat) : Int32 := match i with | 0 => 18 | _ => 36
def fivP (i : Nat) : List Int32 := match i with | 0 => [36] | 1 => [36, 18] | 2 => [18, 18] | 3 => [18, 36, 36] | _ => []
/-- the five procs stand in code ci -/
def F5 (ci : Nat) (σ : sm_S) : Prop := ∀ i, i < 5 → σ.1 36 ci i = Int32.ofNat (fivP i).length ∧ σ.1 38 ci i = fivG i ∧ ∀ j t, (fivP i)[j]? = some t → σ.1 37 ci (i * 4 + j) = t
theorem fivP_4 : ∀ i, (fivP i).length ≤ 4
  | 0 | 1 | 2 | 3 => by decide
  | _ + 4 => Nat.zero_le _
theorem F5_K {ci : Nat} {σ σ' : sm_S} (h : F5 ci σ) (k : K5 σ σ') : F5 ci σ' := by
  intro i hi
  obtain ⟨h1, h2, h3⟩ := h i hi
  refine ⟨by rw [((k ci).1 i hi).1]; exact h1, by rw [((k ci).1 i hi).2]; exact h2, fun j t hj => ?_⟩
  have h4 := fivP_4 i
  have h5 := (List.getElem?_eq_some_iff.mp hj).1
  rw [(k ci).2 _ (by omega)]; exact h3 j t hj
def FS (f pl : Int32) (ci : Nat) (O : Nat → Nat → Nat → Int32) (σ : sm_S) : Prop := CI ci O σ ∧ f ≠ 0 ∧ σ.1 15 0 11 = f ∧ σ.1 15 0 12 = pl ∧ σ.1 15 0 6 = 0 ∧ σ.1 15 0 9 = 0 ∧ F5 ci σ
def FV (f pl : Int32) (ci : Nat) (O : Nat → Nat → Nat → Int32) (r : sm_R) : Prop := ∃ σ', r = rV σ' ∧ FS f pl ci O σ'
def FI (f pl : Int32) (ci : Nat) (O : Nat → Nat → Nat → Int32) (r : sm_R) : Prop := ∃ y σ', r = rI y σ' ∧ FS f pl ci O σ'
theorem fv_ret (F : FS f pl ci O s) : FV f pl ci O (some (some none, s)) := ⟨s, rfl, F⟩
theorem fi_ret {y : Int32} (F : FS f pl ci O s) : FI f pl ci O (some (some (some (vI y)), s)) := ⟨y, s, rfl, F⟩
theorem bindV {G : sm_R → Prop} {a : sm_R} {hx : sm_S → sm_R} {k : sm_S → sm_R} (h : FV f pl ci O a) (hk : ∀ s', FS f pl ci O s' → G (k s')) : G (sm_bV a hx k) := by
  obtain ⟨s', rfl, F⟩ := h
  exact hk s' F
theorem bindI {G : sm_R → Prop} {a : sm_R} {hx : sm_S → sm_R} {k : Int32 → sm_S → sm_R} (h : FI f pl ci O a) (hk : ∀ y s', FS f pl ci O s' → G (k y s')) : G (sm_bI a hx k) := by
  obtain ⟨y, s', rfl, F⟩ := h
  exact hk y s' F
theorem ifT {G : sm_R → Prop} {c : Prop} [Decidable c] {A B : sm_R} (hc : c) (h : G A) : G (if c then A else B) := by rw [if_pos hc]; exact h
theorem ifF {G : sm_R → Prop} {c : Prop} [Decidable c] {A B : sm_R} (hc : ¬ c) (h : G B) : G (if c then A else B) := by rw [if_neg hc]; exact h
theorem ifB {G : sm_R → Prop} {c : Prop} [Decidable c] {A B : sm_R} (h1 : G A) (h2 : G B) : G (if c then A else B) := by
  by_cases hc : c
  · rw [if_pos hc]; exact h1
  · rw [if_neg hc]; exact h2
theorem F5_15 {k : Nat} {v : Int32} : K5 s (sI s 15 0 k v) := fun c => ⟨fun i hi => ⟨by rw [gI, if_neg (by omega)], by rw [gI, if_neg (by omega)]⟩, fun n hn => by rw [gI, if_neg (by omega)]⟩
theorem FS.kn {v : Int32} (F : FS f pl ci O s) (h : (0 : Int32) ≠ v) : ¬ s.1 15 0 6 = v := by rw [F.2.2.2.2.1]; exact h
theorem FS.nx {v : Int32} (F : FS f pl ci O s) (h : (0 : Int32) ≠ v) : ¬ s.1 15 0 9 = v := by rw [F.2.2.2.2.2.1]; exact h
theorem FS.fn (F : FS f pl ci O s) : ¬ s.1 15 0 11 = 0 := by rw [F.2.2.1]; exact F.2.1
theorem FS.cd (F : FS f pl ci O s) : (s.2.2.1 15 0 3).1 = 10 := by rw [F.1.2.2.2.2.2.2.2]
theorem FS.keep {s' : sm_S} (F : FS f pl ci O s) (h : CI ci O s') (k : KR s s') : FS f pl ci O s' := ⟨h, F.2.1, by rw [k.1]; exact F.2.2.1, by rw [k.1]; exact F.2.2.2.1, by rw [k.1]; exact F.2.2.2.2.1, by rw [k.1]; exact F.2.2.2.2.2.1, F5_K F.2.2.2.2.2.2 k.2⟩
/-- a write to the reader that fault, place, kind, next kind don't feel -/
theorem FS.wr {k : Nat} {v : Int32} (F : FS f pl ci O s) (h1 : k ≠ 6) (h2 : k ≠ 9) (h3 : k ≠ 11) (h4 : k ≠ 12) : FS f pl ci O (sI s 15 0 k v) := by
  refine ⟨CI_o F.1 (by omega) (by omega) (by omega) (by omega) (by omega), F.2.1, ?_, ?_, ?_, ?_, F5_K F.2.2.2.2.2.2 (F5_15)⟩
  · rw [gI, if_neg (by omega)]; exact F.2.2.1
  · rw [gI, if_neg (by omega)]; exact F.2.2.2.1
  · rw [gI, if_neg (by omega)]; exact F.2.2.2.2.1
  · rw [gI, if_neg (by omega)]; exact F.2.2.2.2.2.1
theorem FS.op' {v : Int32} (F : FS f pl ci O s) : FS f pl ci O (sI s 10 ci 12 v) := F.keep (CI_open F.1) (KR_I (by omega))
theorem rqF {G : sm_R → Prop} {k : Nat → sm_R} (F : FS f pl ci O s) (h : G (k ci)) : G (sm_rq (s.2.2.1 15 0 3) 10 k) := by
  rw [F.1.2.2.2.2.2.2.2]; exact h
theorem rqT {G : sm_R → Prop} {t i : Nat} {k : Nat → sm_R} (h : G (k i)) : G (sm_rq (t, i) t k) := by
  rw [rq_t]; exact h
theorem FS.op {v : Int32} {q : Nat × Nat} (F : FS f pl ci O s) (hq : q = (10, ci)) : FS f pl ci O (sI s 10 q.2 12 v) := by
  subst hq
  exact F.keep (CI_open F.1) (KR_I (by omega))
theorem fs_83 {x y : Int32} (F : FS f pl ci O s) : FV f pl ci O (sm_callM X true (d + 1) 83 [vP (15, 0), vI x, vI y] s) := by
  rw [f_X5_refuse, q_X5_refuse_0, if_neg F.fn]; exact fv_ret F
theorem fs_84 (F : FS f pl ci O s) : FV f pl ci O (sm_callM X true (d + 1) 84 [vP (15, 0)] s) := by
  rw [f_X5_pass, q_X5_pass_0, if_neg F.fn, q_X5_pass_34, if_neg F.fn, q_X5_pass_61, if_pos rfl, q_X5_pass_80, rq_t, if_pos rfl, q_X5_pass_116, rq_t, if_pos rfl, sI_self F.2.2.2.2.1, sI_self F.2.2.2.2.2.1]
  exact fv_ret F
theorem fs_13 {x y z : Int32} (F : FS f pl ci O s) : FI f pl ci O (sm_callM X true (d + 1) 13 [vP (s.2.2.1 15 0 3), vI x, vI y, vI z] s) := by
  obtain ⟨y, s', e, h, k⟩ := ci_emit (X := X) (d := d) x y z F.1
  rw [F.1.2.2.2.2.2.2.2, e]
  exact ⟨y, s', rfl, F.keep h k⟩
theorem fs_14  (F : FS f pl ci O s) : FI f pl ci O (sm_callM X true (d + 1) 14 [vP (s.2.2.1 15 0 3)] s) := by
  obtain ⟨y, s', e, h, k⟩ := ci_takeBack (X := X) (d := d) F.1
  rw [F.1.2.2.2.2.2.2.2, e]
  exact ⟨y, s', rfl, F.keep h k⟩
theorem fs_15 {x : Int32} (F : FS f pl ci O s) : FV f pl ci O (sm_callM X true (d + 2) 15 [vP (s.2.2.1 15 0 3), vI x] s) := by
  obtain ⟨s', e, h, k⟩ := ci_aimHere (X := X) (d := d) x F.1
  rw [F.1.2.2.2.2.2.2.2, e]
  exact ⟨s', rfl, F.keep h k⟩
theorem fs_16  (F : FS f pl ci O s) : FI f pl ci O (sm_callM X true (d + 1) 16 [vP (s.2.2.1 15 0 3)] s) := by
  obtain ⟨y, s', e, h, k⟩ := ci_addTry (X := X) (d := d) F.1
  rw [F.1.2.2.2.2.2.2.2, e]
  exact ⟨y, s', rfl, F.keep h k⟩
theorem fs_17 {x : Int32} (F : FS f pl ci O s) : FV f pl ci O (sm_callM X true (d + 1) 17 [vP (s.2.2.1 15 0 3), vI x] s) := by
  obtain ⟨s', e, h, k⟩ := ci_catchHere (X := X) (d := d) x F.1
  rw [F.1.2.2.2.2.2.2.2, e]
  exact ⟨s', rfl, F.keep h k⟩
theorem fs_5  (F : FS f pl ci O s) : FI f pl ci O (sm_callM X true (d + 1) 5 [vP (s.2.2.1 15 0 3)] s) := by
  obtain ⟨y, s', e, h, k⟩ := ci_addProc (X := X) (d := d) F.1
  rw [F.1.2.2.2.2.2.2.2, e]
  exact ⟨y, s', rfl, F.keep h k⟩
theorem fs_6 {x y : Int32} (F : FS f pl ci O s) : FV f pl ci O (sm_callM X true (d + 2) 6 [vP (s.2.2.1 15 0 3), vI x, vI y] s) := by
  obtain ⟨s', e, h, k⟩ := ci_addParameter (X := X) (d := d) x y F.1
  rw [F.1.2.2.2.2.2.2.2, e]
  exact ⟨s', rfl, F.keep h k⟩
theorem fs_7 {x y : Int32} (F : FS f pl ci O s) : FV f pl ci O (sm_callM X true (d + 2) 7 [vP (s.2.2.1 15 0 3), vI x, vI y] s) := by
  obtain ⟨s', e, h, k⟩ := ci_setGiven (X := X) (d := d) x y F.1
  rw [F.1.2.2.2.2.2.2.2, e]
  exact ⟨s', rfl, F.keep h k⟩
theorem fs_2  (F : FS f pl ci O s) : FI f pl ci O (sm_callM X true (d + 1) 2 [vP (s.2.2.1 15 0 3)] s) := by
  obtain ⟨n, hn, e, -⟩ := ci_ownProcs (X := X) (d := d)  F.1
  rw [F.1.2.2.2.2.2.2.2, e]
  exact fi_ret F
theorem fs_8 {x : Int32} (F : FS f pl ci O s) : FI f pl ci O (sm_callM X true (d + 2) 8 [vP (s.2.2.1 15 0 3), vI x] s) := by
  obtain ⟨n, hn, e, -⟩ := ci_parameterCount (X := X) (d := d) x F.1
  rw [F.1.2.2.2.2.2.2.2, e]
  exact fi_ret F
theorem fs_9 {x y : Int32} (F : FS f pl ci O s) : FI f pl ci O (sm_callM X true (d + 3) 9 [vP (s.2.2.1 15 0 3), vI x, vI y] s) := by
  obtain ⟨n, e⟩ := ci_parameter (X := X) (d := d) x y F.1
  rw [F.1.2.2.2.2.2.2.2, e]
  exact fi_ret F
theorem fs_10 {x : Int32} (F : FS f pl ci O s) : FI f pl ci O (sm_callM X true (d + 2) 10 [vP (s.2.2.1 15 0 3), vI x] s) := by
  obtain ⟨n, e⟩ := ci_given (X := X) (d := d) x F.1
  rw [F.1.2.2.2.2.2.2.2, e]
  exact fi_ret F
theorem fs_73  (F : FS f pl ci O s) : FV f pl ci O (sm_callM X true (d + 1) 73 [vP (14, 0)] s) := by
  obtain ⟨s', e, h, k⟩ := ci_nclear (X := X) (d := d)  F.1
  rw [e]
  exact ⟨s', rfl, F.keep h k⟩
theorem fs_76 {x : Int32} (F : FS f pl ci O s) : FV f pl ci O (sm_callM X true (d + 1) 76 [vP (14, 0), vI x] s) := by
  obtain ⟨s', e, h, k⟩ := ci_know (X := X) (d := d) x F.1
  rw [e]
  exact ⟨s', rfl, F.keep h k⟩
theorem fs_78 {x : Int32} (F : FS f pl ci O s) : FV f pl ci O (sm_callM X true (d + 2) 78 [vP (14, 0), vI x] s) := by
  obtain ⟨s', e, h, k⟩ := ci_forget (X := X) (d := d) x F.1
  rw [e]
  exact ⟨s', rfl, F.keep h k⟩
theorem fs_75 {v : Int64} {x : Int32} (F : FS f pl ci O s) : FI f pl ci O (sm_callM X true (d + 2) 75 [vP (14, 0), vL v, vI x] s) := by
  obtain ⟨n, s', hn, e, h, k⟩ := ci_make (X := X) (d := d) v x F.1
  rw [e]
  exact ⟨_, s', rfl, F.keep h k⟩
theorem fs_74 (F : FS f pl ci O s) : FI f pl ci O (sm_callM X true (d + 1) 74 [vP (14, 0)] s) := by
  obtain ⟨n, hn, e⟩ := F.1.2.2.2.1
  rw [c_isFull e hn]
  exact fi_ret F
theorem fs_77 (F : FS f pl ci O s) : FI f pl ci O (sm_callM X true (d + 1) 77 [vP (14, 0)] s) := by
  rw [f_X4_knownNow, q_X4_knownNow_0]; exact fi_ret F
theorem fs_79 {v : Int64} (F : FS f pl ci O s) : FI f pl ci O (sm_callM X true (d + 1) 79 [vP (14, 0), vL v] s) := by
  obtain ⟨y, e⟩ := ci_slotOf (X := X) (d := d) v F.1
  rw [e]; exact fi_ret F
theorem fs_80 {x : Int32} (F : FS f pl ci O s) : FI f pl ci O (sm_callM X true (d + 1) 80 [vP (14, 0), vI x] s) := by
  obtain ⟨y, e⟩ := ci_typeOf (X := X) (d := d) x F.1
  rw [e]; exact fi_ret F
theorem fs_90 {v : Int64} (F : FS f pl ci O s) : FI f pl ci O (sm_callM X true (d + 6) 90 [vP (15, 0), vL v] s) := by
  obtain ⟨y, e⟩ := ci_findProc (X := X) (d := d) v F.1
  rw [e]; exact fi_ret F
theorem fs_26 {x : Int32} (F : FS f pl ci O s) : FI f pl ci O (sm_callM X true (d + 1) 26 [vI x] s) := by rw [c_isReference]; exact fi_ret F
theorem fs_25 {x : Int32} (F : FS f pl ci O s) : FI f pl ci O (sm_callM X true (d + 1) 25 [vI x] s) := by rw [c_isRow]; exact fi_ret F
theorem fs_23 {x : Int32} (F : FS f pl ci O s) : FI f pl ci O (sm_callM X true (d + 1) 23 [vI x] s) := by rw [c_isKind]; exact fi_ret F
theorem fs_28 {x y : Int32} (F : FS f pl ci O s) : FI f pl ci O (sm_callM X true (d + 2) 28 [vI x, vI y] s) := by rw [c_fits]; exact fi_ret F
theorem fs_29 {x y : Int32} (F : FS f pl ci O s) : FI f pl ci O (sm_callM X true (d + 2) 29 [vI x, vI y] s) := by rw [c_mayBeAsked]; exact fi_ret F
theorem fs_133h {i : Nat} (hi : i < 54) (v : Int64) (F : FS f pl ci O s) : FI f pl ci O (sm_callM X true (d + 5) 133 [vP (5, i), vL v] s) := by rw [c_indexIn hi]; exact fi_ret F
theorem fs_148 {x : Int32} (F : FS f pl ci O s) : FI f pl ci O (sm_callM X true (d + 1) 148 [vI x] s) := by
  rw [f_X9_isReckoned, q_X9_isReckoned_0]
  repeat' split
  all_goals exact fi_ret F
theorem fs_133 {v : Int64} (F : FS f pl ci O s) : FI f pl ci O (sm_callM X true (d + 5) 133 [vP (5, 4), vL v] s) := fs_133h (by decide) v F
end
