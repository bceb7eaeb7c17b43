section
/-! THE SMALL STATE AND THE HEAP. E: where the claim's own cells begin; the script's cell; texts, their bytes, tables of ints; a static that nobody looks at; the classes' numbers and slots; classes of rows; the heap at the start -/
abbrev sm_G : Type := Nat × Nat × (Nat → Nat) × (Nat → Nat) × (Nat → Nat) × Value × va_G × (Nat → ClassId) × Heap
abbrev sm_ad (σ : sm_S) : Nat → Nat → Nat := σ.2.2.2.2.2.1
abbrev sm_cnt (σ : sm_S) : Nat → Nat := σ.2.2.2.2.1
abbrev sm_cells (σ : sm_S) : Nat := σ.2.2.2.2.2.2.1
abbrev sm_slots (σ : sm_S) : Nat := σ.2.2.2.2.2.2.2
def sm_rp (E : sm_G) (ad : Nat → Nat → Nat) (q : Nat × Nat) : Option Nat :=
  if q.1 = 0 then none else if q.1 = 4 then some E.2.1 else if q.1 = 5 then some (E.2.2.1 q.2) else if q.1 = 6 then some (E.2.2.2.2.1 q.2) else if q.1 = 7 then some (E.2.2.2.1 q.2) else some (E.1 + ad q.1 q.2)
def sm_rv (E : sm_G) (ad : Nat → Nat → Nat) (v : sm_V) : Value := match v with
  | .inl x => .int x
  | .inr (.inl x) => .long x
  | .inr (.inr (.inl q)) => va_rf (sm_rp E ad q)
  | .inr (.inr (.inr _)) => E.2.2.2.2.2.1
def sm_okp (cnt : Nat → Nat) (q : Nat × Nat) : Prop := q = (0, 0) ∨ q.1 = 4 ∨ (q.1 = 5 ∧ q.2 < 54) ∨ (q.1 = 6 ∧ q.2 < 6) ∨ (q.1 = 7 ∧ q.2 < 54) ∨ (10 ≤ q.1 ∧ q.2 < cnt q.1)
def sm_okv (cnt : Nat → Nat) (v : sm_V) : Prop := match v with
  | .inr (.inr (.inl q)) => sm_okp cnt q
  | _ => True
/-- element j of a row; field k of an object -/
def sm_av (E : sm_G) (σ : sm_S) (t i j : Nat) : Value := match (sm_ak t).1 with
  | 0 => .int (σ.1 t i j)
  | 1 => .int (σ.1 t i j)
  | 2 => .long (σ.2.1 t i j)
  | _ => va_rf (sm_rp E (sm_ad σ) (σ.2.2.1 t i j))
def sm_al (σ : sm_S) (t i : Nat) : Nat := bif (sm_ak t).2 == 0 then σ.2.2.2.1 t i else (sm_ak t).2
def sm_fv (E : sm_G) (w : Bool) (σ : sm_S) (t i k : Nat) : Value := sm_rv E (sm_ad σ) (sm_gf w t k ((sm_fk t).getD k 0) i σ)
def sm_cell (E : sm_G) (w : Bool) (σ : sm_S) (H : Heap) (t i : Nat) : Prop :=
  (t < 24 ∧ t_OB (E.1 + sm_ad σ t i) (E.2.2.2.2.2.2.1.1 (t - 10)) (sm_fk t).length (E.2.2.2.2.2.2.1.2 (t - 10)) H (sm_fv E w σ t i)) ∨
  (t = 24 ∧ ∃ cell, H[E.1 + sm_ad σ t i]? = some cell ∧ cell.cls = E.2.2.2.2.2.2.2.1 24 ∧ cell.vm = .none ∧ cell.monitor = {} ∧ cell.slots.size = 6 ∧ cell.slots[E.2.2.2.2.2.2.1.2 14 0]? = some .null) ∨
  (30 ≤ t ∧ t < 97 ∧ H[E.1 + sm_ad σ t i]? = some (arrV (E.2.2.2.2.2.2.2.1 t) (sm_al σ t i) (sm_av E σ t i)))
def sm_HR (E : sm_G) (w : Bool) (σ : sm_S) (H : Heap) : Prop :=
  H.size = E.1 + sm_cells σ ∧ (∀ q, q < E.1 → H[q]? = E.2.2.2.2.2.2.2.2[q]?) ∧
  (∀ t i, 10 ≤ t → i < sm_cnt σ t → sm_ad σ t i < sm_cells σ ∧ sm_cell E w σ H t i) ∧
  (∀ t i t' i', 10 ≤ t → i < sm_cnt σ t → 10 ≤ t' → i' < sm_cnt σ t' → sm_ad σ t i = sm_ad σ t' i' → t = t' ∧ i = i') ∧
  (∀ t i k, sm_cnt σ t ≤ i → σ.1 t i k = 0 ∧ σ.2.1 t i k = 0 ∧ σ.2.2.1 t i k = (0, 0)) ∧
  (∀ t i k, sm_okp (sm_cnt σ) (σ.2.2.1 t i k)) ∧
  (w = true → ∀ t i k kd : Nat, 10 ≤ t → i < sm_cnt σ t → (sm_fk t)[k]? = some kd → 10 ≤ kd → i < sm_cnt σ kd)
/-- the locals -/
def sm_LR (E : sm_G) (σ : sm_S) (nL : Nat) (L : List sm_V) (ls : Array Slot) : Prop :=
  ls.size = nL ∧ lv_wf ls ∧ ∀ i, sm_nth L i ≠ vU → ls[i]? = some (.val (sm_rv E (sm_ad σ) (sm_nth L i))) ∧ sm_okv (sm_cnt σ) (sm_nth L i)
def sm_SR (σ : sm_S) (S : List sm_V) : Prop := ∀ v ∈ S, sm_okv (sm_cnt σ) v
abbrev sm_st (E : sm_G) (σ : sm_S) (S : List sm_V) : List Value := S.map (sm_rv E (sm_ad σ))
/-- what the tables say, at a state -/
def sm_sc (k : Nat) : String × String := match k with
  | 0 => ("FreightYards$Code", "FIVE_PARAMETERS")
  | 1 => ("FreightYards$Code", "FIVE_PARAMETER_COUNTS")
  | 2 => ("FreightYards$Code", "FIVE_GIVE")
  | 3 => ("FreightYards$Kinds", "ABOVE")
  | 4 => ("FreightYards$Reader", "FIELD_OWNERS")
  | _ => ("FreightYardsModel", "ABOVE")
def sm_len54 : List Nat := (List.range 54).map (fun k => (sm_by k).length)
def sm_byt54 : List (List Int32) := (List.range 54).map sm_by
def sm_dc : List MethodName := [⟨"java/lang/RuntimeException", "<init>", "(Ljava/lang/String;)V"⟩, ⟨"java/lang/Exception", "<init>", "(Ljava/lang/String;)V"⟩, ⟨"java/lang/Throwable", "<init>", "(Ljava/lang/String;)V"⟩]
/-- a static of Throwable that is not written -/
def sm_LS (n d : String) (E : sm_G) (U : State) : Prop := ∃ (c : ClassId) (k : Class) (i : Nat) (f : Field) (a : Nat) (cell : Cell) (u : Value), U.vm.findClass "java/lang/Throwable" = some c ∧ U.fieldFound? "java/lang/Throwable" n d = some (c, k, i, f) ∧ f.isStatic = true ∧ k.statics = some a ∧ E.2.2.2.2.2.2.2.2[a]? = some cell ∧ cell.vm.isStatics = true ∧ cell.cls = c ∧ f.slot < cell.slots.size ∧ k.staticTypes[f.slot]? = some f.type ∧ cell.slots[f.slot]? = some u ∧ u.isRef = true ∧ ¬ E.1 ≤ a
theorem sm_LS.moved {n d : String} {E : sm_G} {s U : State} (hvm : s.vm.Alike U.vm) (h : sm_LS n d E s) : sm_LS n d E U := by
  obtain ⟨c, k, i, f, a, cell, u, h1, h2, h3, h4, h5, h6, h7, h8, h9, h10⟩ := h
  obtain ⟨k', hi', he⟩ := State.fieldFound?_setVm hvm h2
  exact ⟨c, k', i, f, a, cell, u, by rw [hvm.findClass]; exact h1, hi', h3, by rw [he]; exact h4, h5, h6, h7, h8, by rw [he]; exact h9, h10⟩
def sm_EF (E : sm_G) (X : Nat × (Nat → Int32)) (U : State) : Prop :=
  (∀ t, 10 ≤ t → t < 24 → u_Kn U (sm_cR t) (sm_cT t) (sm_fk t).length (E.2.2.2.2.2.2.1.1 (t - 10)) (E.2.2.2.2.2.2.1.2 (t - 10))) ∧
  (∀ t, 30 ≤ t → t < 97 → ArrOfT U (E.2.2.2.2.2.2.2.1 t) (sm_at_ t) ∧ va_RA U (E.2.2.2.2.2.2.2.1 t) (sm_at_ t)) ∧
  vk_S 54 sm_len54 sm_byt54 E.2.2.1 E.2.2.2.1 (fun q => E.1 ≤ q) U E.2.2.2.2.2.2.2.2 ∧
  (∀ q ∈ sm_sl, ∃ tx, vk_R (sm_cn q.1) q.2.1 tx (E.2.2.1 q.2.2.1) U) ∧
  (∀ k, k < 6 → va_Z (sm_sc k).1 (sm_sc k).2 "[I" (.ref (E.2.2.2.2.1 k)) (fun q => E.1 ≤ q) U E.2.2.2.2.2.2.2.2 ∧ va_T .int (E.2.2.2.2.1 k) (sm_tb k).length (fun j => .int ((sm_tb k).getD j 0)) (fun q => E.1 ≤ q) U E.2.2.2.2.2.2.2.2) ∧
  va_Z "java/lang/String" "COMPACT_STRINGS" "Z" (.int 1) (fun q => E.1 ≤ q) U E.2.2.2.2.2.2.2.2 ∧
  va_Z "jdk/internal/util/Preconditions" "SIOOBE_FORMATTER" "Ljava/util/function/BiFunction;" E.2.2.2.2.2.1 (fun q => E.1 ≤ q) U E.2.2.2.2.2.2.2.2 ∧
  (∀ q ∈ sm_fn, va_Nw (sm_fnw q) U) ∧ (∀ q ∈ sm_mn, va_Nw (sm_mnw q) U) ∧
  (va_AO "FreightYards$Vehicle" U ∧ va_AO "FreightYards$Row" U ∧ va_AO "FreightYards$Train" U) ∧
  (va_X E.2.1 X.1 X.2 U E.2.2.2.2.2.2.2.2 ∧ E.2.1 < E.1 ∧ E.1 = E.2.2.2.2.2.2.2.2.size) ∧
  (U.vm.findClass "java/lang/IllegalStateException" = some (E.2.2.2.2.2.2.2.1 24) ∧ SlotIs U "java/lang/Throwable" "backtrace" "Ljava/lang/Object;" (E.2.2.2.2.2.2.1.2 14 0) ∧
    sm_LS "UNASSIGNED_STACK" "[Ljava/lang/StackTraceElement;" E U ∧ sm_LS "SUPPRESSED_SENTINEL" "Ljava/util/List;" E U ∧ ∀ y ∈ sm_dc, va_Nw (.declares y) U) ∧
  (E.2.2.2.2.2.1 = .null ∨ ∃ a, E.2.2.2.2.2.1 = .ref a)
theorem sm_EF.warm {E : sm_G} {X : Nat × (Nat → Int32)} {s U : State} (hW : s.WarmedH U.vm) (h : sm_EF E X s) : sm_EF E X U := by
  obtain ⟨h1, h2, h3, h4, h5, h6, h7, h8, h9, h10, h11, h12, h13⟩ := h
  have ha := hW.alike
  refine ⟨fun t a b => u_Kn_moved ha (h1 t a b), fun t a b => ⟨arrOfT_moved ha (h2 t a b).1, (h2 t a b).2.moved ha⟩, h3.moved ha, fun q hq => ?_, fun k hk => ⟨(h5 k hk).1.moved ha, (h5 k hk).2.moved ha⟩, h6.moved ha, h7.moved ha, fun q hq => ?_, fun q hq => ?_, ?_, ⟨h11.1.moved ha, h11.2⟩, ⟨by rw [ha.findClass]; exact h12.1, slotIs_moved ha h12.2.1, h12.2.2.1.moved ha, h12.2.2.2.1.moved ha, fun y hy => va_Nw.warmD hW (h12.2.2.2.2 y hy)⟩, h13⟩
  · obtain ⟨tx, h⟩ := h4 q hq
    exact ⟨tx, h.warm hW⟩
  · exact va_Nw.warmF hW (h8 q hq)
  · exact va_Nw.warmM hW (h9 q hq)
  · exact ⟨va_AO.moved ha h10.1, va_AO.moved ha h10.2.1, va_AO.moved ha h10.2.2⟩
end
