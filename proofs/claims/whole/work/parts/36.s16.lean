section
variable {E : sm_G} {X : Nat × (Nat → Int32)} {w : Bool} {p : Program} {l : Launch} {e : Env} {R : Room} {s : State} {m : MethodId} {args : Array Value} {below : List Frame} {meth : Method} {c : Code} {mn : Nat} {C : sm_C} {r : sm_O × sm_S} {c0 s0 : Nat} {Q : State → Prop} {n pc : Nat} {a : Nat × Nat × Nat × Nat} {L S : List sm_V} {σ : sm_S} {hx : sm_S → sm_R} {H : Heap} {locs : List Loc} {ls : Array Slot}
theorem sm_inw {u : Cond} (h : u ∈ lw_tbl) (hg : goodWord u = true) : u ∈ sm_wd := List.mem_filter.mpr ⟨h, hg⟩
theorem sm_prim : (Cond.native arraycopyName ∈ lw_tbl ∧ Cond.static arraycopyName ∈ lw_tbl ∧ Cond.initialized "java/lang/System" ∈ lw_tbl) ∧ Cond.instanceMethod Lib.objectInit ∈ lw_tbl ∧ Cond.code Lib.objectInit ⟨#[0xb1]⟩ 1 none ∈ lw_tbl := by decide +kernel
theorem sm_s_obj (cx : sm_Cx E X p s m args meth c mn) (K : sm_K E X w p l e R s m args below meth c mn C r c0 s0 Q n) (hR : 1 ≤ R.frames ∧ 60 ≤ R.locals) {i a1 a2 a3 : Nat} (hd : decode (sm_bc mn) pc = .ok (.invokespecial i, 3)) (hok : sm_okA mn (.invokespecial i) (a1, a2, a3, 1002) pc = true)
    (h : sm_I (sm_ZZ X) w C (.invokespecial i) (a1, a2, a3, 1002) pc (sm_run (sm_ZZ X) sm_PP w C mn n (pc + 3)) (sm_run (sm_ZZ X) sm_PP w C mn n) hx L S σ = some r) (hH : sm_HR E w σ H) (hL : sm_LR E σ (sm_nl mn) L ls) (hS : sm_SR σ S) (hl : ∀ q ∈ locs, E.1 ≤ q.base) (hc : c0 ≤ sm_cells σ) (hs : s0 ≤ sm_slots σ) :
    W p l e R s m args below meth c H locs (sm_cells σ - c0) (sm_slots σ - s0) Q (F0 m pc ls (sm_st E σ S)) := by
  obtain ⟨hex, hb, hml, hown, hts, hEF, -⟩ := cx
  have ho := hEF.2.2.2.2.2.2.2.2.2.2.2.2
  rcases sm_r1_s S with q | ⟨x, S, rfl⟩
  · exact absurd h (by rw [show sm_I (sm_ZZ X) w C (.invokespecial i) (a1, a2, a3, 1002) pc _ _ hx L S σ = none from q _]; exact fun z => by cases z)
  have h : (if 10 ≤ x.1 ∧ sm_cat S ≤ 8 then sm_run (sm_ZZ X) sm_PP w C mn n (pc + 3) L S σ else none) = some r := h
  by_cases hz : ¬ (10 ≤ x.1 ∧ sm_cat S ≤ 8)
  · rw [if_neg hz] at h; cases h
  have hz := Decidable.not_not.mp hz
  rw [if_pos hz] at h
  have hok : sm_has4 sm_ml (sm_ow mn) i 1002 = true := hok
  show W p l e R s m args below meth c H locs _ _ Q (F0 m pc ls (va_rf (sm_rp E (sm_ad σ) (x.1, x.2)) :: sm_st E σ S))
  rw [sm_rp_big hz.1]
  refine W.objInit hex hb hown (hts _ (sm_ml_w hok)) (hts _ (sm_inw sm_prim.2.1 rfl)) (hts _ (sm_inw sm_prim.2.2 rfl)) rfl (hL.1.trans hml.symm) rfl hd hR.1 ?_ (K _ _ _ _ _ _ _ h hH hL hS.tail hl hc hs)
  show 2 * 0 + ((S.map (sm_rv E (sm_ad σ))).map fun v => v.category).sum + 12 ≤ R.locals
  rw [sm_cats ho]
  omega
end
