section
variable {E : sm_G} {X : Nat × (Nat → Int32)} {w : Bool} {p : Program} {l : Launch} {e : Env} {R : Room} {s : State} {m : MethodId} {args : Array Value} {below : List Frame} {meth : Method} {c : Code} {mn : Nat} {C : sm_C} {r : sm_O × sm_S} {c0 s0 : Nat} {Q : State → Prop} {n : Nat}
variable {H : Heap} {locs : List Loc} {cells slots : Nat}
theorem sm_ldcwS {cc : ByteArray} {pc : Nat} {ls : Array Slot} {rest : List Value} (hexec : p.tables.exec = Jvm.exec) (hb : c.code = cc) {own tx : String} {index q : Nat} (hown : s.vm.findClass own = some m.cls) (hZ : vk_R own index tx q s) (hdg : decode cc pc = .ok (.ldc_w index, 3))
    (k : W p l e R s m args below meth c H locs cells slots Q (F0 m (pc + 3) ls (.ref q :: rest))) : W p l e R s m args below meth c H locs cells slots Q (F0 m pc ls rest) := by
  intro T hT X
  obtain ⟨t, a1, b1⟩ := k T hT X
  refine ⟨t, ?_, b1⟩
  have hZ1 : (Cond.stringRef own index tx).holds #[] s none s [] = true := hZ.1
  obtain ⟨k, cf, i, a', hk, hcf, hcp, -, hr, hev'⟩ := Cond.stringRef_spec hown hZ1
  cases hZ.2.symm.trans hev'
  obtain ⟨k', hk', he⟩ := X.warmed.alike.2.2 _ _ hk
  have hr' : k'.resolved[index]? = some (some (.string q)) := by
    rcases X.warmed.entry hk hk' index with h | ⟨h, -⟩
    · rw [h]; exact hr
    · rw [hr] at h; cases h
  have hdg' : decode c.code pc = .ok (.ldc_w index, 3) := by rw [hb]; exact hdg
  jvm_step X.here [hexec, hdg', ldc_w.wp_string (s := T) (f := F0 m pc ls rest) X.here.top hk' (by rw [he]; exact hcf) hcp hr']
  exact a1
end
section
/-- a word by its place -/
theorem sm_wrd {w : Cond} {i : Nat} (h : lw_tbl[i]? = some w) (hg : goodWord w = true) : w ∈ sm_wd := List.mem_filter.mpr ⟨List.mem_of_getElem? h, hg⟩
theorem sm_has4_s {l : List (Nat × Nat × Nat × Nat)} {a b c : Nat} (h : sm_has4 l a b c = true) : ∃ q ∈ l, q.1 = a ∧ q.2.1 = b ∧ q.2.2.1 = c := by
  obtain ⟨q, hq, h1⟩ := List.any_eq_true.mp h
  simp only [Bool.and_eq_true, beq_iff_eq] at h1
  exact ⟨q, hq, h1.1, h1.2.1, h1.2.2⟩
theorem sm_has5_s {l : List (Nat × Nat × Nat × Nat × Nat)} {a b c d : Nat} (h : sm_has5 l a b c d = true) : ∃ q ∈ l, q.1 = a ∧ q.2.1 = b ∧ q.2.2.1 = c ∧ q.2.2.2.1 = d := by
  obtain ⟨q, hq, h1⟩ := List.any_eq_true.mp h
  simp only [Bool.and_eq_true, beq_iff_eq] at h1
  exact ⟨q, hq, h1.1, h1.2.1, h1.2.2.1, h1.2.2.2⟩
theorem sm_il_w {a b c : Nat} (h : sm_has4 sm_il a b c = true) : Cond.constant (sm_cn a) b (Int32.ofNat c) ∈ sm_wd := by
  obtain ⟨q, hq, rfl, rfl, rfl⟩ := sm_has4_s h
  exact sm_wrd (of_decide_eq_true (List.all_eq_true.mp sm_il_in q hq)) rfl
theorem sm_ll_w {a b c : Nat} (h : sm_has4 sm_ll a b c = true) : Cond.constantLong (sm_cn a) b (sm_lg c) ∈ sm_wd := by
  obtain ⟨q, hq, rfl, rfl, rfl⟩ := sm_has4_s h
  exact sm_wrd (of_decide_eq_true (List.all_eq_true.mp sm_ll_in q hq)) rfl
theorem sm_kl_w {a b c : Nat} (h : sm_has4 sm_kl a b c = true) : Cond.classLink (sm_cn a) b (bif c == 24 then "java/lang/IllegalStateException" else sm_cR c) ∈ sm_wd := by
  obtain ⟨q, hq, rfl, rfl, rfl⟩ := sm_has4_s h
  exact sm_wrd (of_decide_eq_true (List.all_eq_true.mp sm_kl_in q hq)) rfl
theorem sm_ml_w {a b c : Nat} (h : sm_has4 sm_ml a b c = true) : Cond.methodLink (sm_cn a) b (sm_my c) ∈ sm_wd := by
  obtain ⟨q, hq, rfl, rfl, rfl⟩ := sm_has4_s h
  exact sm_wrd (of_decide_eq_true (List.all_eq_true.mp sm_ml_in q hq)) rfl
theorem sm_fl_w {a b c d : Nat} (h : sm_has5 sm_fl a b c d = true) : sm_flw (a, b, c, d, 0) ∈ sm_wd := by
  obtain ⟨q, hq, rfl, rfl, rfl, rfl⟩ := sm_has5_s h
  exact sm_wrd (of_decide_eq_true (List.all_eq_true.mp sm_fl_in q hq)) rfl
theorem sm_uw (t : Nat) (h1 : 10 ≤ t) (h2 : t < 24) : ∀ u ∈ u_ws (sm_cR t) (sm_cT t) (sm_fk t).length, u ∈ sm_wd := by
  have key : ∀ u ∈ u_ws (sm_cR t) (sm_cT t) (sm_fk t).length, u ∈ lw_tbl := by
    obtain ⟨k, rfl⟩ := Nat.exists_eq_add_of_le h1
    match k, h2 with
    | 0, _ => exact sm_uw0
    | 1, _ => exact fun u hu => by cases hu
    | 2, _ => exact sm_uw2
    | 3, _ => exact sm_uw3
    | 4, _ => exact sm_uw4
    | 5, _ => exact sm_uw5
    | 6, _ => exact sm_uw6
    | 7, _ => exact sm_uw7
    | 8, _ => exact sm_uw8
    | 9, _ => exact sm_uw9
    | 10, _ => exact sm_uw10
    | 11, _ => exact sm_uw11
    | 12, _ => exact sm_uw12
    | 13, _ => exact sm_uw13
    | k + 14, h => omega
  intro u hu
  refine List.mem_filter.mpr ⟨key u hu, ?_⟩
  obtain ⟨k, -, rfl⟩ := List.mem_map.mp hu
  unfold u_lay
  split <;> rfl
theorem sm_cty_ok (t : Nat) (h1 : 10 ≤ t) (h2 : t < 24) : ∀ k, k < (sm_fk t).length → parseFieldDescriptor (sm_cT t k).2.2.1 = some (sm_cty t k) := by
  obtain ⟨k, rfl⟩ := Nat.exists_eq_add_of_le h1
  match k, h2 with
  | 0, _ => exact tyX0_ok
  | 1, _ => exact tyX1_ok
  | 2, _ => exact tyX2_ok
  | 3, _ => exact tyX3_ok
  | 4, _ => exact tyX4_ok
  | 5, _ => exact tyX5_ok
  | 6, _ => exact tyX6_ok
  | 7, _ => exact tyX7_ok
  | 8, _ => exact tyX8_ok
  | 9, _ => exact tyX9_ok
  | 10, _ => exact tyX10_ok
  | 11, _ => exact tyX11_ok
  | 12, _ => exact tyX12_ok
  | 13, _ => exact tyX13_ok
  | k + 14, h => omega
theorem sm_cnm (t : Nat) (h1 : 10 ≤ t) (h2 : t < 24) : ∀ a, a < (sm_fk t).length → ∀ b, b < (sm_fk t).length → a ≠ b → (sm_cT t a).2.1 ≠ (sm_cT t b).2.1 := by
  obtain ⟨k, rfl⟩ := Nat.exists_eq_add_of_le h1
  match k, h2 with
  | 0, _ => exact nmX0
  | 1, _ => exact nmX1
  | 2, _ => exact nmX2
  | 3, _ => exact nmX3
  | 4, _ => exact nmX4
  | 5, _ => exact nmX5
  | 6, _ => exact nmX6
  | 7, _ => exact nmX7
  | 8, _ => exact nmX8
  | 9, _ => exact nmX9
  | 10, _ => exact nmX10
  | 11, _ => exact nmX11
  | 12, _ => exact nmX12
  | 13, _ => exact nmX13
  | k + 14, h => omega
/-- fields are declared by the class itself; kinds and types agree -/
theorem sm_cdecl (t : Nat) (h1 : 10 ≤ t) (h2 : t < 24) : ∀ k, k < (sm_fk t).length → (sm_cT t k).1 = sm_cR t := by
  have h : ∀ u, u < 14 → ∀ k, k < (sm_fk (u + 10)).length → (sm_cT (u + 10) k).1 = sm_cR (u + 10) := by decide +kernel
  have := h (t - 10) (by omega)
  rw [Nat.sub_add_cancel h1] at this
  exact this
def sm_tyk (ty : FieldType) (kd : Nat) : Bool := match ty with
  | .int => kd == 0
  | .boolean => kd == 3
  | .long => kd == 1
  | .object _ => kd == 2 || decide (10 ≤ kd)
  | .array _ => kd == 2 || decide (10 ≤ kd)
  | _ => false
theorem sm_ctyk (t : Nat) (h1 : 10 ≤ t) (h2 : t < 24) : ∀ k, k < (sm_fk t).length → sm_tyk (sm_cty t k) ((sm_fk t).getD k 0) = true := by
  have h : ∀ u, u < 14 → ∀ k, k < (sm_fk (u + 10)).length → sm_tyk (sm_cty (u + 10) k) ((sm_fk (u + 10)).getD k 0) = true := by decide +kernel
  have := h (t - 10) (by omega)
  rw [Nat.sub_add_cancel h1] at this
  exact this
end
