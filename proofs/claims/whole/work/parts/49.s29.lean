section
variable {X : Nat × (Nat → Int32)} {w : Bool} {l : Launch} {E : sm_G}
/-! WHAT A METHOD MAY WRITE: A 0 t k: ints, A 1: longs, A 2: references, A 3 t 0: new ones of tag t, A 4 0 0: anything new. A row's places count as one -/
abbrev sm_A : Type := Nat → Nat → Nat → Bool
def sm_nk (t k : Nat) : Nat := bif Nat.ble 30 t then 0 else k
def sm_fr (A : sm_A) (σ s : sm_S) : Prop :=
  (∀ t i k, A 0 t (sm_nk t k) = false → s.1 t i k = σ.1 t i k) ∧ (∀ t i k, A 1 t (sm_nk t k) = false → s.2.1 t i k = σ.2.1 t i k) ∧ (∀ t i k, A 2 t (sm_nk t k) = false → s.2.2.1 t i k = σ.2.2.1 t i k) ∧
  (∀ t, A 3 t 0 = false → sm_cnt s t = sm_cnt σ t) ∧ (A 4 0 0 = false → sm_cells s = sm_cells σ ∧ sm_slots s = sm_slots σ) ∧ (∀ t, sm_cnt σ t ≤ sm_cnt s t) ∧ (∀ t i, i < sm_cnt σ t → s.2.2.2.1 t i = σ.2.2.2.1 t i)
theorem sm_fr.refl {A : sm_A} (σ : sm_S) : sm_fr A σ σ := ⟨fun _ _ _ _ => rfl, fun _ _ _ _ => rfl, fun _ _ _ _ => rfl, fun _ _ => rfl, fun _ => ⟨rfl, rfl⟩, fun _ => Nat.le_refl _, fun _ _ _ => rfl⟩
theorem sm_fr.trans {A : sm_A} (a b c : sm_S) (h : sm_fr A a b) (k : sm_fr A b c) : sm_fr A a c := by
  obtain ⟨h1, h2, h3, h4, h5, h6, h7⟩ := h
  obtain ⟨k1, k2, k3, k4, k5, k6, k7⟩ := k
  exact ⟨fun t i j q => (k1 t i j q).trans (h1 t i j q), fun t i j q => (k2 t i j q).trans (h2 t i j q), fun t i j q => (k3 t i j q).trans (h3 t i j q), fun t q => (k4 t q).trans (h4 t q), fun q => ⟨(k5 q).1.trans (h5 q).1, (k5 q).2.trans (h5 q).2⟩, fun t => Nat.le_trans (h6 t) (k6 t), fun t i q => (k7 t i (Nat.lt_of_lt_of_le q (h6 t))).trans (h7 t i q)⟩
theorem sm_fr_I {A : sm_A} {σ : sm_S} {t i k : Nat} {v : Int32} (h : A 0 t (sm_nk t k) = true) : sm_fr A σ (sI σ t i k v) := by
  refine ⟨fun t' i' k' q => ?_, fun _ _ _ _ => rfl, fun _ _ _ _ => rfl, fun _ _ => rfl, fun _ => ⟨rfl, rfl⟩, fun _ => Nat.le_refl _, fun _ _ _ => rfl⟩
  show (if t' = t ∧ i' = i ∧ k' = k then v else σ.1 t' i' k') = _
  rw [if_neg]
  rintro ⟨rfl, rfl, rfl⟩
  rw [h] at q; cases q
theorem sm_fr_L {A : sm_A} {σ : sm_S} {t i k : Nat} {v : Int64} (h : A 1 t (sm_nk t k) = true) : sm_fr A σ (sL σ t i k v) := by
  refine ⟨fun _ _ _ _ => rfl, fun t' i' k' q => ?_, fun _ _ _ _ => rfl, fun _ _ => rfl, fun _ => ⟨rfl, rfl⟩, fun _ => Nat.le_refl _, fun _ _ _ => rfl⟩
  show (if t' = t ∧ i' = i ∧ k' = k then v else σ.2.1 t' i' k') = _
  rw [if_neg]
  rintro ⟨rfl, rfl, rfl⟩
  rw [h] at q; cases q
theorem sm_fr_R {A : sm_A} {σ : sm_S} {t i k : Nat} {v : Nat × Nat} (h : A 2 t (sm_nk t k) = true) : sm_fr A σ (sR σ t i k v) := by
  refine ⟨fun _ _ _ _ => rfl, fun _ _ _ _ => rfl, fun t' i' k' q => ?_, fun _ _ => rfl, fun _ => ⟨rfl, rfl⟩, fun _ => Nat.le_refl _, fun _ _ _ => rfl⟩
  show (if t' = t ∧ i' = i ∧ k' = k then v else σ.2.2.1 t' i' k') = _
  rw [if_neg]
  rintro ⟨rfl, rfl, rfl⟩
  rw [h] at q; cases q
theorem sm_fr_C {A : sm_A} {σ : sm_S} {t i d n : Nat} {f : Nat → Int32} (ht : 30 ≤ t) (h : A 0 t 0 = true) : sm_fr A σ (sC σ t i d n f) := by
  refine ⟨fun t' i' k' q => ?_, fun _ _ _ _ => rfl, fun _ _ _ _ => rfl, fun _ _ => rfl, fun _ => ⟨rfl, rfl⟩, fun _ => Nat.le_refl _, fun _ _ _ => rfl⟩
  show (if t' = t ∧ i' = i ∧ d ≤ k' ∧ k' < d + n then f (k' - d) else σ.1 t' i' k') = _
  rw [if_neg]
  rintro ⟨rfl, rfl, -⟩
  rw [show sm_nk t' k' = 0 by unfold sm_nk; rw [show Nat.ble 30 t' = true from Nat.ble_eq.mpr ht]; rfl, h] at q
  cases q
theorem sm_fr_N {A : sm_A} {σ : sm_S} {t n m : Nat} (h : A 3 t 0 = true) (h4 : A 4 0 0 = true) : sm_fr A σ (sN σ t n m) := by
  refine ⟨fun _ _ _ _ => rfl, fun _ _ _ _ => rfl, fun _ _ _ _ => rfl, fun t' q => ?_, fun q => ?_, fun t' => ?_, fun t' i q => ?_⟩
  · show (if t' = t then sm_cnt σ t + 1 else sm_cnt σ t') = _
    rw [if_neg]
    rintro rfl
    rw [h] at q; cases q
  · rw [h4] at q; cases q
  · show sm_cnt σ t' ≤ (if t' = t then sm_cnt σ t + 1 else sm_cnt σ t')
    split
    · next z => rw [z]; exact Nat.le_succ _
    · exact Nat.le_refl _
  · show (if t' = t ∧ i = sm_cnt σ t then m else σ.2.2.2.1 t' i) = _
    rw [if_neg]
    rintro ⟨rfl, rfl⟩
    exact Nat.lt_irrefl _ q
def sm_ckA (w : Bool) (A : sm_A) (M : Nat → Bool) (e : sm_E) : Bool := match e.2.1 with
  | .putfield _ => Nat.blt e.2.2.2.1.1 30 && (bif e.2.2.2.1.2.2.1 == 0 || e.2.2.2.1.2.2.1 == 3 then A 0 e.2.2.2.1.1 e.2.2.2.1.2.1 else bif e.2.2.2.1.2.2.1 == 1 then A 1 e.2.2.2.1.1 e.2.2.2.1.2.1 else bif e.2.2.2.1.2.2.1 == 2 then A 2 e.2.2.2.1.1 e.2.2.2.1.2.1 else w || A 2 e.2.2.2.1.1 e.2.2.2.1.2.1)
  | .iastore => Nat.ble 30 e.2.2.2.1.1 && A 0 e.2.2.2.1.1 0
  | .bastore => Nat.ble 30 e.2.2.2.1.1 && A 0 e.2.2.2.1.1 0
  | .lastore => Nat.ble 30 e.2.2.2.1.1 && A 1 e.2.2.2.1.1 0
  | .aastore => Nat.ble 30 e.2.2.2.1.1 && A 2 e.2.2.2.1.1 0
  | .new _ => (w && !(e.2.2.2.1.1 == 16 || e.2.2.2.1.1 == 18 || e.2.2.2.1.1 == 19)) || (A 3 e.2.2.2.1.1 0 && A 4 0 0)
  | .newarray _ => A 3 e.2.2.2.1.1 0 && A 4 0 0
  | .anewarray _ => A 3 e.2.2.2.1.1 0 && A 4 0 0
  | .invokestatic _ => bif e.2.2.2.1.2.2.2 == 1000 then Nat.ble 30 e.2.2.2.1.1 && A 0 e.2.2.2.1.1 0 else Nat.ble 308 e.2.2.2.1.1 || M e.2.2.2.1.1
  | .invokevirtual _ => Nat.ble 308 e.2.2.2.1.1 || M e.2.2.2.1.1
  | .invokespecial _ => e.2.2.2.1.2.2.2 == 1001 || (e.2.2.2.1.2.2.2 == 1002 || (Nat.ble 308 e.2.2.2.1.1 || M e.2.2.2.1.1))
  | _ => true
theorem sm_nk_lt {t k : Nat} (h : Nat.blt t 30 = true) : sm_nk t k = k := by
  unfold sm_nk
  cases q : Nat.ble 30 t with
  | false => rfl
  | true => have h1 := Nat.ble_eq.mp q; have h2 : t + 1 ≤ 30 := Nat.ble_eq.mp h; omega
theorem sm_nk_ge {t k : Nat} (h : Nat.ble 30 t = true) : sm_nk t k = 0 := by
  unfold sm_nk; rw [h]; rfl
theorem sm_ckA_w {A : sm_A} {M : Nat → Bool} {e : sm_E} {σ s : sm_S} (h : sm_ckA w A M e = true) (k : sm_wr w e.2.1 e.2.2.2.1 σ s) : sm_fr A σ s := by
  obtain ⟨pc, ins, len, ⟨a1, a2, a3, a4⟩, lv⟩ := e
  cases ins <;> first | exact absurd k id | skip
  case putfield i =>
    have h : (Nat.blt a1 30 && (bif a3 == 0 || a3 == 3 then A 0 a1 a2 else bif a3 == 1 then A 1 a1 a2 else bif a3 == 2 then A 2 a1 a2 else w || A 2 a1 a2)) = true := h
    rw [Bool.and_eq_true] at h
    obtain ⟨h1, h2⟩ := h
    rcases k with ⟨i, x, rfl, q⟩ | ⟨i, x, rfl, q⟩ | ⟨i, x, rfl, q⟩
    · have q : a3 = 0 ∨ a3 = 3 := q
      refine sm_fr_I ?_
      rw [sm_nk_lt h1]
      rcases q with rfl | rfl <;> exact h2
    · have q : a3 = 1 := q
      subst q
      exact sm_fr_L (by rw [sm_nk_lt h1]; exact h2)
    · have q : a3 = 2 ∨ (w = false ∧ 4 ≤ a3) := q
      refine sm_fr_R ?_
      rw [sm_nk_lt h1]
      rcases q with rfl | ⟨rfl, q⟩
      · exact h2
      · rw [show (a3 == 0) = false by simp; omega, show (a3 == 3) = false by simp; omega, show (a3 == 1) = false by simp; omega, show (a3 == 2) = false by simp; omega] at h2
        exact h2
  case iastore =>
    obtain ⟨i, z, x, rfl⟩ := k
    have h : (Nat.ble 30 a1 && A 0 a1 0) = true := h
    rw [Bool.and_eq_true] at h
    exact sm_fr_I (by rw [sm_nk_ge h.1]; exact h.2)
  case bastore =>
    obtain ⟨i, z, x, rfl⟩ := k
    have h : (Nat.ble 30 a1 && A 0 a1 0) = true := h
    rw [Bool.and_eq_true] at h
    exact sm_fr_I (by rw [sm_nk_ge h.1]; exact h.2)
  case lastore =>
    obtain ⟨i, z, x, rfl⟩ := k
    have h : (Nat.ble 30 a1 && A 1 a1 0) = true := h
    rw [Bool.and_eq_true] at h
    exact sm_fr_L (by rw [sm_nk_ge h.1]; exact h.2)
  case aastore =>
    obtain ⟨i, z, x, rfl⟩ := k
    have h : (Nat.ble 30 a1 && A 2 a1 0) = true := h
    rw [Bool.and_eq_true] at h
    exact sm_fr_R (by rw [sm_nk_ge h.1]; exact h.2)
  case new i =>
    obtain ⟨n, m, rfl, q⟩ := k
    have h : ((w && !(a1 == 16 || a1 == 18 || a1 == 19)) || (A 3 a1 0 && A 4 0 0)) = true := h
    rw [Bool.or_eq_true] at h
    rcases h with h | h
    · simp only [Bool.and_eq_true, Bool.not_eq_true', Bool.or_eq_false_iff, beq_eq_false_iff_ne] at h
      have q : a1 = 16 ∨ a1 = 18 ∨ a1 = 19 := q h.1
      omega
    · rw [Bool.and_eq_true] at h
      exact sm_fr_N h.1 h.2
  case newarray i =>
    obtain ⟨n, m, rfl⟩ := k
    have h : (A 3 a1 0 && A 4 0 0) = true := h
    rw [Bool.and_eq_true] at h
    exact sm_fr_N h.1 h.2
  case anewarray i =>
    obtain ⟨n, m, rfl⟩ := k
    have h : (A 3 a1 0 && A 4 0 0) = true := h
    rw [Bool.and_eq_true] at h
    exact sm_fr_N h.1 h.2
  case invokestatic i =>
    obtain ⟨q, j, n, f, rfl⟩ := k
    have q : a4 = 1000 := q
    subst q
    have h : (Nat.ble 30 a1 && A 0 a1 0) = true := h
    rw [Bool.and_eq_true] at h
    exact sm_fr_C (Nat.ble_eq.mp h.1) h.2
theorem sm_ckA_c {A : sm_A} {M : Nat → Bool} {e : sm_E} (h : sm_ckA w A M e = true) (k : sm_isC e.2.1 e.2.2.2.1) (hl : e.2.2.2.1.1 < 308) : M e.2.2.2.1.1 = true := by
  obtain ⟨pc, ins, len, ⟨a1, a2, a3, a4⟩, lv⟩ := e
  have hb : Nat.ble 308 a1 = false := by
    cases q : Nat.ble 308 a1 with
    | false => rfl
    | true => have := Nat.ble_eq.mp q; have hl : a1 < 308 := hl; omega
  cases ins <;> first | exact absurd k id | skip
  case invokestatic i =>
    have k : a4 ≠ 1000 := k
    have h : (bif a4 == 1000 then Nat.ble 30 a1 && A 0 a1 0 else Nat.ble 308 a1 || M a1) = true := h
    rw [show (a4 == 1000) = false by simpa using k, hb] at h
    exact h
  case invokevirtual i =>
    have h : (Nat.ble 308 a1 || M a1) = true := h
    rw [hb] at h
    exact h
  case invokespecial i =>
    obtain ⟨k1, k2⟩ : a4 ≠ 1001 ∧ a4 ≠ 1002 := k
    have h : (a4 == 1001 || (a4 == 1002 || (Nat.ble 308 a1 || M a1))) = true := h
    rw [show (a4 == 1001) = false by simpa using k1, show (a4 == 1002) = false by simpa using k2, hb] at h
    exact h
/-- WHAT A GROUP OF METHODS WRITES, by a look at their code -/
theorem sm_callM_fr {A : sm_A} {M : Nat → Bool} (hck : ∀ k, k < 308 → M k = true → (sm_cd k).all (sm_ckA w A M) = true) : ∀ (d k : Nat) (As : List sm_V) (σ : sm_S) (o : sm_O) (t : sm_S), M k = true → sm_callM X w d k As σ = some (o, t) → sm_fr A σ t
  | 0, _, _, _, _, _, _, h => by cases h
  | d + 1, k, As, σ, o, t, hM, h => by
    obtain ⟨hk, -, h⟩ := sm_callM_s h
    obtain ⟨n, h⟩ := sm_go_some.mp h
    have hc := List.all_eq_true.mp (hck k hk hM)
    refine sm_run_un (ρ := sm_fr A) sm_fr.refl sm_fr.trans (fun e he σ s => sm_ckA_w (hc e he)) (fun e he hi As σ o t hq => ?_) (fun pc e he => (sm_find_s he).1) n h
    exact sm_callM_fr hck d _ As σ o t (sm_ckA_c (hc e he) hi (sm_callM_k hq)) hq
/-! THE WIRES: references that are set once -/
def sm_Wd (σ : sm_S) : Prop := ∀ t i k kd : Nat, 10 ≤ t → (sm_fk t)[k]? = some kd → 10 ≤ kd → i < sm_cnt σ t → σ.2.2.1 t i k = (kd, i) ∧ i < sm_cnt σ kd
theorem sm_fk_k : (List.range 24).all (fun t => (sm_fk t).all (fun kd => Nat.ble kd 3 || Nat.ble 10 kd)) = true := by decide +kernel
theorem sm_fk_big {t : Nat} (h : 24 ≤ t) : sm_fk t = [] := by
  obtain ⟨n, rfl⟩ := Nat.exists_eq_add_of_le' h
  rfl
theorem sm_fv_w {σ : sm_S} (h : sm_Wd σ) {t i : Nat} (ht : 10 ≤ t) (hi : i < sm_cnt σ t) : sm_fv E true σ t i = sm_fv E false σ t i := by
  funext k
  unfold sm_fv
  congr 1
  cases hk : (sm_fk t)[k]? with
  | none =>
    rw [show (sm_fk t).getD k 0 = 0 by simp [List.getD, hk]]
    rfl
  | some kd =>
    rw [show (sm_fk t).getD k 0 = kd by simp [List.getD, hk]]
    have htl : t < 24 := by
      by_cases q : t < 24
      · exact q
      · rw [sm_fk_big (by omega)] at hk; cases hk
    have h1 := List.all_eq_true.mp (List.all_eq_true.mp sm_fk_k t (List.mem_range.mpr htl)) kd (List.mem_of_getElem? hk)
    rw [Bool.or_eq_true] at h1
    rcases h1 with h1 | h1
    · have h1 := Nat.ble_eq.mp h1
      rcases kd with _ | _ | _ | _ | kd
      · rfl
      · rfl
      · rfl
      · rfl
      · omega
    · have h1 := Nat.ble_eq.mp h1
      obtain ⟨n, rfl⟩ := Nat.exists_eq_add_of_le' h1
      show vP (n + 10, i) = vP (σ.2.2.1 t i k)
      rw [(h t i k _ ht hk h1 hi).1]
theorem sm_HR_tf {σ : sm_S} {H : Heap} (hW : sm_Wd σ) (h : sm_HR E false σ H) : sm_HR E true σ H := by
  obtain ⟨h1, h2, h3, h4, h5, h6, h7⟩ := h
  refine ⟨h1, h2, fun t i ht hi => ⟨(h3 t i ht hi).1, ?_⟩, h4, h5, h6, fun _ t i k kd ht hi hk h10 => (hW t i k kd ht hk h10 hi).2⟩
  have := (h3 t i ht hi).2
  unfold sm_cell at this ⊢
  rw [sm_fv_w hW ht hi]
  exact this
theorem sm_HR_ft {σ : sm_S} {H : Heap} (hW : sm_Wd σ) (h : sm_HR E true σ H) : sm_HR E false σ H := by
  obtain ⟨h1, h2, h3, h4, h5, h6, h7⟩ := h
  refine ⟨h1, h2, fun t i ht hi => ⟨(h3 t i ht hi).1, ?_⟩, h4, h5, h6, fun q => (by cases q)⟩
  have := (h3 t i ht hi).2
  unfold sm_cell at this ⊢
  rw [← sm_fv_w hW ht hi]
  exact this
def sm_AW : sm_A := fun q t k => bif q == 2 then Nat.ble 30 t || (sm_fk t)[k]? == some 2 else bif q == 3 then Nat.ble 30 t || (t == 16 || (t == 18 || t == 19)) else true
theorem sm_AW_ok : (List.range 308).all (fun k => (sm_cd k).all (sm_ckA true sm_AW (fun _ => true))) = true := by decide +kernel
theorem sm_fk_no : (sm_fk 16).all (fun kd => Nat.ble kd 3) = true ∧ (sm_fk 18).all (fun kd => Nat.ble kd 3) = true ∧ (sm_fk 19).all (fun kd => Nat.ble kd 3) = true := by decide +kernel
theorem sm_Wd_call {d k : Nat} {As : List sm_V} {σ t : sm_S} {o : sm_O} (hW : sm_Wd σ) (h : sm_callM X true d k As σ = some (o, t)) : sm_Wd t := by
  have hf := sm_callM_fr (A := sm_AW) (M := fun _ => true) (fun k hk _ => List.all_eq_true.mp sm_AW_ok k (List.mem_range.mpr hk)) d k As σ o t rfl h
  obtain ⟨-, -, h3, h4, -, h6, -⟩ := hf
  intro t' i j kd ht hk h10 hi
  have htl : t' < 24 := by
    by_cases q : t' < 24
    · exact q
    · rw [sm_fk_big (by omega)] at hk; cases hk
  have hne : t' ≠ 16 ∧ t' ≠ 18 ∧ t' ≠ 19 := by
    have hq : ∀ l : List Nat, l.all (fun kd => Nat.ble kd 3) = true → l[j]? = some kd → False := fun l h1 h2 => by
      have := Nat.ble_eq.mp (List.all_eq_true.mp h1 kd (List.mem_of_getElem? h2))
      omega
    refine ⟨?_, ?_, ?_⟩
    · rintro rfl; exact hq _ sm_fk_no.1 hk
    · rintro rfl; exact hq _ sm_fk_no.2.1 hk
    · rintro rfl; exact hq _ sm_fk_no.2.2 hk
  have hb : Nat.ble 30 t' = false := by
    cases q : Nat.ble 30 t' with
    | false => rfl
    | true => have := Nat.ble_eq.mp q; omega
  have hc : sm_cnt t t' = sm_cnt σ t' := h4 t' (by
    show (Nat.ble 30 t' || (t' == 16 || (t' == 18 || t' == 19))) = false
    rw [hb, show (t' == 16) = false by simpa using hne.1, show (t' == 18) = false by simpa using hne.2.1, show (t' == 19) = false by simpa using hne.2.2]; rfl)
  rw [hc] at hi
  obtain ⟨e1, e2⟩ := hW t' i j kd ht hk h10 hi
  refine ⟨?_, Nat.lt_of_lt_of_le e2 (h6 kd)⟩
  rw [← e1]
  refine h3 t' i j ?_
  show (Nat.ble 30 t' || (sm_fk t')[sm_nk t' j]? == some 2) = false
  rw [hb, show sm_nk t' j = j by unfold sm_nk; rw [hb]; rfl, hk]
  show (some kd == some 2) = false
  have : kd ≠ 2 := by omega
  simpa using this
/-! THE LAW's CALLEES: the two that make are run while the wires are laid, all others behind that -/
noncomputable def sm_callL (X : Nat × (Nat → Int32)) (d : Nat) : sm_C := fun k As σ => bif sm_kn k == 2 then sm_callM X false d k As σ else @ite _ (sm_Wd σ) (Classical.propDecidable _) (sm_callM X true d k As σ) none
theorem sm_callL_s {d k : Nat} {As : List sm_V} {σ : sm_S} {r : sm_O × sm_S} (h : sm_callL X d k As σ = some r) : sm_callM X false d k As σ = some r ∨ (sm_Wd σ ∧ sm_callM X true d k As σ = some r) := by
  unfold sm_callL at h
  cases hk : sm_kn k == 2 with
  | true => rw [hk] at h; exact Or.inl h
  | false =>
    rw [hk] at h
    have h : @ite _ (sm_Wd σ) (Classical.propDecidable _) (sm_callM X true d k As σ) none = some r := h
    by_cases hW : sm_Wd σ
    · rw [if_pos hW] at h; exact Or.inr ⟨hW, h⟩
    · rw [if_neg hW] at h; cases h
theorem sm_metL (hfl : l.flags = pinnedFlags ++ [noTraceFlag]) (d : Nat) : sm_Met l E X false (sm_callL X d) (d + 6) (60 * d + 100) := by
  intro k As σ r h
  rcases sm_callL_s h with h | ⟨hW, h⟩
  · exact sm_met hfl d k As σ r h
  · have hm := sm_met (E := E) (X := X) (w := true) hfl d k As σ r h
    intro p e ha hc hk s m args below hf happ hP hK
    obtain ⟨p1, p2, p3, p4⟩ := hP
    obtain ⟨n, o, q1, q2, q3, ⟨⟨q4, q5⟩, q6⟩⟩ := hm p e ha hc hk s m args below hf happ ⟨p1, sm_HR_tf hW p2, p3, p4⟩ hK
    exact ⟨n, o, q1, q2, q3, ⟨⟨q4, sm_HR_ft (sm_Wd_call (o := r.1) hW h) q5⟩, q6⟩⟩
theorem sm_callL_mo (d : Nat) (m : Nat) (a : List sm_V) (s : sm_S) (o : sm_O) (t : sm_S) (h : sm_callL X d m a s = some (o, t)) : sm_mo s t := by
  rcases sm_callL_s h with h | ⟨-, h⟩ <;> exact sm_callM_mo d m a s o t h
theorem sm_callL_k (d k : Nat) (As : List sm_V) (σ : sm_S) (r : sm_O × sm_S) (h : sm_callL X d k As σ = some r) : k < 308 := by
  rcases sm_callL_s h with h | ⟨-, h⟩ <;> exact sm_callM_k h
end
