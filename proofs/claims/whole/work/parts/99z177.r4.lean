section
/-! THE REFERENCE's MACHINE STANDS WHERE THE PURE MACHINE STANDS -/
variable {X : Nat × (Nat → Int32)} {d : Nat} {s σ σ' : sm_S} {W W' : zW} {n i k m j p mi b q pc q0 : Nat} {c t u y nx v why : Int32} {x : zTx} {K K' : List (Nat × Int32)} {nm : Nat → Int32} {S ops L H' : List Int32} {H : List Nat} {r F : List zFr} {fu : Nat} {l : List zI} {e : zI} {f : zFr}
/-- what is known at an item -/
def gOf (l : List zI) (pc : Nat) : zG := ((l[pc]?).map i_g).getD ([], [], 0, [])
theorem gOf_e (h : l[pc]? = some e) : gOf l pc = i_g e := by unfold gOf; rw [h]; rfl
/-- the operands as the reference has them: what a proc without a type gives isn't there -/
def mOps : List Int32 → List Int32 → List Int32
  | t :: S, c :: ops => if t = 38 then mOps S ops else mV t c :: mOps S ops
  | _, _ => []
theorem mOps_c (h : t ≠ 38) : mOps (t :: S) (c :: ops) = mV t c :: mOps S ops := by rw [mOps, if_neg h]
theorem mOps_0 : mOps (38 :: S) (c :: ops) = mOps S ops := by rw [mOps, if_pos rfl]
theorem mOps_len : ∀ (S ops : List Int32), (mOps S ops).length ≤ ops.length
  | [], _ => by simp [mOps]
  | t :: S, [] => by simp [mOps]
  | t :: S, c :: ops => by
    have := mOps_len S ops
    rw [mOps, List.length_cons]
    split
    · omega
    · rw [List.length_cons]; omega
/-- the operands of a frame that waits -/
def susL (l : List zI) (g : zFr) : List Int32 := mOps ((gOf l g.2.1).1.drop 1) g.2.2.2
def hM (l : List zI) : List zFr → Nat
  | [] => 0
  | g :: r => hM l r + (susL l g).length
/-- the tries that are begun, the innermost first: the try, how deep, the operands below -/
def trF (l : List zI) (H : List Nat) (r : List zFr) : List (Nat × Nat × Nat) := H.map (fun j => (j, r.length, hM l r))
def trR (l : List zI) : List zFr → List (Nat × Nat × Nat)
  | [] => []
  | g :: r => trF l (gOf l g.2.1).2.2.2 r ++ trR l r
def tgO (l : List zI) (j : Nat) : Nat := ((l[j]?).map (fun e => e.2.2.1)).getD 0
def agO (l : List zI) (j : Nat) : Int32 := ((l[j]?).map (fun e => e.2.1)).getD 0
def MF1 (l : List zI) (K : List (Nat × Int32)) (nm : Nat → Int32) (L : List Int32) (q : Nat) (r : List zFr) (σ : sm_S) : Prop := σ.1 85 0 r.length = Int32.ofNat (hM l r) ∧ σ.1 84 0 r.length = Int32.ofNat q ∧ (∀ g r', r = g :: r' → σ.1 83 0 r.length = Int32.ofNat (pos vM l g.2.1)) ∧ (∀ y ∈ K, σ.1 82 0 (24 * r.length + y.1) = mV y.2 (nm y.1)) ∧ (∀ (i : Nat) (c : Int32), L[i]? = some c → σ.1 81 0 (hM l r + (L.length - 1 - i)) = c) ∧ ∀ y ∈ K, y.1 < 24
def MF (l : List zI) (σ : sm_S) : List zFr → Prop
  | [] => True
  | g :: r => MF1 l (gOf l g.2.1).2.1 g.2.2.1 (susL l g) g.1 r σ ∧ MF l σ r
def TrM (l : List zI) (T : List (Nat × Nat × Nat)) (σ : sm_S) : Prop := σ.1 23 0 47 = Int32.ofNat T.length ∧ ∀ (i j dp bt : Nat), T[i]? = some (j, dp, bt) → σ.1 86 0 (T.length - 1 - i) = Int32.ofNat (pos vM l (tgO l j)) ∧ σ.1 87 0 (T.length - 1 - i) = Int32.ofNat dp ∧ σ.1 88 0 (T.length - 1 - i) = Int32.ofNat bt ∧ σ.1 89 0 (T.length - 1 - i) = agO l j
def MSt (x : zTx) (mi : Nat) (K : List (Nat × Int32)) (nm : Nat → Int32) (L : List Int32) (H : List Nat) (q : Nat) (r : List zFr) (nx : Int32) (fu : Nat) (σ : sm_S) : Prop :=
  MTx x mi σ ∧ σ.2.2.1 23 0 6 = (22, mi) ∧ σ.1 23 0 37 = Int32.ofNat (hM x.1 r + L.length) ∧ σ.1 23 0 39 = Int32.ofNat r.length ∧ σ.1 23 0 48 = nx ∧ σ.1 23 0 49 = Int32.ofNat fu ∧ (σ.1 23 0 57 = 0 ∧ σ.1 23 0 51 = 0 ∧ σ.1 23 0 52 = 0 ∧ σ.1 23 0 53 = -1) ∧ MF1 x.1 K nm L q r σ ∧ MF x.1 σ r ∧ TrM x.1 (trF x.1 H r ++ trR x.1 r) σ ∧ hM x.1 r + L.length ≤ 1300 ∧ r.length ≤ 14
def MG (x : zTx) (mi : Nat) (W : zW) (K : List (Nat × Int32)) (nm : Nat → Int32) (L : List Int32) (H : List Nat) (q : Nat) (r : List zFr) (nx : Int32) (fu : Nat) (σ : sm_S) : Prop := MW W σ ∧ MSt x mi K nm L H q r nx fu σ
theorem MF1_s (h81 : ∀ j, j < hM l r + L.length → σ'.1 81 0 j = σ.1 81 0 j) (h82 : ∀ j, j < 24 * (r.length + 1) → σ'.1 82 0 j = σ.1 82 0 j) (h83 : ∀ j, j < r.length + 1 → σ'.1 83 0 j = σ.1 83 0 j ∧ σ'.1 84 0 j = σ.1 84 0 j ∧ σ'.1 85 0 j = σ.1 85 0 j) (h : MF1 l K nm L q r σ) : MF1 l K nm L q r σ' := by
  obtain ⟨a1, a2, a3, a4, a5, a6⟩ := h
  refine ⟨by rw [(h83 _ (by omega)).2.2]; exact a1, by rw [(h83 _ (by omega)).2.1]; exact a2, fun g r' hr => by rw [(h83 _ (by omega)).1]; exact a3 g r' hr, fun y hy => ?_, fun i c hi => ?_, a6⟩
  · have := a6 y hy
    rw [h82 _ (by omega)]; exact a4 y hy
  · have := (List.getElem?_eq_some_iff.mp hi).1
    rw [h81 _ (by omega)]; exact a5 i c hi
theorem MF_s : ∀ (r : List zFr), (∀ j, j < hM l r → σ'.1 81 0 j = σ.1 81 0 j) → (∀ j, j < 24 * r.length → σ'.1 82 0 j = σ.1 82 0 j) → (∀ j, j < r.length → σ'.1 83 0 j = σ.1 83 0 j ∧ σ'.1 84 0 j = σ.1 84 0 j ∧ σ'.1 85 0 j = σ.1 85 0 j) → MF l σ r → MF l σ' r
  | [], _, _, _, _ => trivial
  | g :: r, h81, h82, h83, ⟨a, b⟩ => ⟨MF1_s h81 h82 h83 a, MF_s r (fun j hj => h81 j (by show j < hM l r + _; omega)) (fun j hj => h82 j (by rw [List.length_cons]; omega)) (fun j hj => h83 j (by rw [List.length_cons]; omega)) b⟩
theorem MF1_k (hk : ∀ y ∈ K', y ∈ K) (h : MF1 l K nm L q r σ) : MF1 l K' nm L q r σ := ⟨h.1, h.2.1, h.2.2.1, fun y hy => h.2.2.2.1 y (hk y hy), h.2.2.2.2.1, fun y hy => h.2.2.2.2.2 y (hk y hy)⟩
theorem MF1_0 (h : MF1 l K nm L q r σ) : MF1 l K nm [] q r σ := ⟨h.1, h.2.1, h.2.2.1, h.2.2.2.1, (fun i c hi => by cases hi), h.2.2.2.2.2⟩
theorem TrM_s {T : List (Nat × Nat × Nat)} (h47 : σ'.1 23 0 47 = σ.1 23 0 47) (h8 : ∀ t j, 86 ≤ t → t ≤ 89 → j < T.length → σ'.1 t 0 j = σ.1 t 0 j) (h : TrM l T σ) : TrM l T σ' := by
  refine ⟨h47.trans h.1, fun i j dp bt hi => ?_⟩
  have := (List.getElem?_eq_some_iff.mp hi).1
  obtain ⟨k1, k2, k3, k4⟩ := h.2 i j dp bt hi
  exact ⟨by rw [h8 86 _ (by omega) (by omega) (by omega)]; exact k1, by rw [h8 87 _ (by omega) (by omega) (by omega)]; exact k2, by rw [h8 88 _ (by omega) (by omega) (by omega)]; exact k3, by rw [h8 89 _ (by omega) (by omega) (by omega)]; exact k4⟩
/-- other writes -/
theorem MSt_i (hI : ∀ t i k, ((t = 22 ∨ (59 ≤ t ∧ t ≤ 66)) ∨ (t = 23 ∧ (k = 37 ∨ k = 39 ∨ (47 ≤ k ∧ k ≤ 49) ∨ (51 ≤ k ∧ k ≤ 53) ∨ k = 57)) ∨ (81 ≤ t ∧ t ≤ 89)) → σ'.1 t i k = σ.1 t i k) (hR : σ'.2.2.1 23 0 6 = σ.2.2.1 23 0 6) (h : MSt x mi K nm L H q r nx fu σ) : MSt x mi K nm L H q r nx fu σ' := by
  obtain ⟨h1, h2, h3, h4, h5, h6, ⟨h7, h8, h9, h10⟩, h11, h12, h13, h14⟩ := h
  have I := fun (k : Nat) (hk : k = 37 ∨ k = 39 ∨ (47 ≤ k ∧ k ≤ 49) ∨ (51 ≤ k ∧ k ≤ 53) ∨ k = 57) => hI 23 0 k (Or.inr (Or.inl ⟨rfl, hk⟩))
  have J := fun (t j : Nat) (h1 : 81 ≤ t) (h2 : t ≤ 89) => hI t 0 j (Or.inr (Or.inr ⟨h1, h2⟩))
  exact ⟨MTx_s (fun t k ht => hI t mi k (Or.inl ht)) h1, hR.trans h2, (I 37 (by decide)).trans h3, (I 39 (by decide)).trans h4, (I 48 (by decide)).trans h5, (I 49 (by decide)).trans h6, ⟨(I 57 (by decide)).trans h7, (I 51 (by decide)).trans h8, (I 52 (by decide)).trans h9, (I 53 (by decide)).trans h10⟩,
    MF1_s (fun j _ => J 81 j (by decide) (by decide)) (fun j _ => J 82 j (by decide) (by decide)) (fun j _ => ⟨J 83 j (by decide) (by decide), J 84 j (by decide) (by decide), J 85 j (by decide) (by decide)⟩) h11,
    MF_s r (fun j _ => J 81 j (by decide) (by decide)) (fun j _ => J 82 j (by decide) (by decide)) (fun j _ => ⟨J 83 j (by decide) (by decide), J 84 j (by decide) (by decide), J 85 j (by decide) (by decide)⟩) h12,
    TrM_s (I 47 (by decide)) (fun t j h1 h2 _ => J t j (by omega) (by omega)) h13, h14⟩
theorem MG_nx {nx' : Int32} (h : MG x mi W K nm L H q r nx fu σ) : MG x mi W K nm L H q r nx' fu (sI σ 23 0 48 nx') := by
  obtain ⟨w, h1, h2, h3, h4, h5, h6, h7, h11, h12, h13, h14⟩ := h
  exact ⟨w, h1, h2, h3, h4, by rw [gI, if_pos ⟨rfl, rfl, rfl⟩], h6, h7, MF1_s (σ := σ) (fun j _ => rfl) (fun j _ => rfl) (fun j _ => ⟨rfl, rfl, rfl⟩) h11, MF_s (σ := σ) r (fun j _ => rfl) (fun j _ => rfl) (fun j _ => ⟨rfl, rfl, rfl⟩) h12, TrM_s (σ := σ) rfl (fun t j h1 h2 _ => by rw [gI, if_neg (by omega)]) h13, h14⟩
theorem MG_fu {fu' : Nat} (h : MG x mi W K nm L H q r nx fu σ) : MG x mi W K nm L H q r nx fu' (sI σ 23 0 49 (Int32.ofNat fu')) := by
  obtain ⟨w, h1, h2, h3, h4, h5, h6, h7, h11, h12, h13, h14⟩ := h
  exact ⟨w, h1, h2, h3, h4, h5, by rw [gI, if_pos ⟨rfl, rfl, rfl⟩], h7, MF1_s (σ := σ) (fun j _ => rfl) (fun j _ => rfl) (fun j _ => ⟨rfl, rfl, rfl⟩) h11, MF_s (σ := σ) r (fun j _ => rfl) (fun j _ => rfl) (fun j _ => ⟨rfl, rfl, rfl⟩) h12, TrM_s (σ := σ) rfl (fun t j h1 h2 _ => by rw [gI, if_neg (by omega)]) h13, h14⟩
theorem MG_k (hk : ∀ y ∈ K', y ∈ K) (h : MG x mi W K nm L H q r nx fu σ) : MG x mi W K' nm L H q r nx fu σ := by
  obtain ⟨w, h1, h2, h3, h4, h5, h6, h7, h11, h12⟩ := h
  exact ⟨w, h1, h2, h3, h4, h5, h6, h7, MF1_k hk h11, h12⟩
theorem m_push (h : MG x mi W K nm L H q r nx fu σ) (hl : hM x.1 r + L.length < 1300) : ∃ σ', sm_callM X true (d + 1) 253 [vP (23, 0), vI c] σ = rV σ' ∧ MG x mi W K nm (c :: L) H q r nx fu σ' := by
  obtain ⟨w, h1, h2, h3, h4, h5, h6, h7, ⟨a1, a2, a3, a4, a5, a6⟩, h12, h13, h14, h15⟩ := h
  rw [f_X13_push, q_X13_push_0, h3, ix_nat (by omega) (by omega)]
  have e1 : (sI σ 81 0 (hM x.1 r + L.length) c).1 23 0 37 = Int32.ofNat (hM x.1 r + L.length) := h3
  rw [e1, i_s]
  refine ⟨_, rfl, w, h1, h2, ?_, h4, h5, h6, h7, ⟨a1, a2, a3, a4, fun i e hi => ?_, a6⟩, MF_s (σ := σ) r (fun j hj => ?_) (fun j _ => rfl) (fun j _ => ⟨rfl, rfl, rfl⟩) h12, TrM_s (σ := σ) rfl (fun t j h1 h2 _ => by rw [gI, if_neg (by omega), gI, if_neg (by omega)]) h13, ?_, h15⟩
  · rw [gI, if_pos ⟨rfl, rfl, rfl⟩]; rfl
  · rw [gI, if_neg (by omega), gI]
    cases i with
    | zero =>
      rw [if_pos ⟨rfl, rfl, by rw [List.length_cons]; omega⟩]
      exact Option.some.inj hi
    | succ i =>
      have hi : L[i]? = some e := hi
      have := (List.getElem?_eq_some_iff.mp hi).1
      rw [List.length_cons, if_neg (by omega), show L.length + 1 - 1 - (i + 1) = L.length - 1 - i by omega]
      exact a5 i e hi
  · rw [gI, if_neg (by omega), gI, if_neg (by omega)]
  · rw [List.length_cons]; omega
theorem m_pop (h : MG x mi W K nm (c :: L) H q r nx fu σ) : ∃ σ', sm_callM X true (d + 1) 254 [vP (23, 0)] σ = rI c σ' ∧ MG x mi W K nm L H q r nx fu σ' := by
  obtain ⟨w, h1, h2, h3, h4, h5, h6, h7, ⟨a1, a2, a3, a4, a5, a6⟩, h12, h13, h14, h15⟩ := h
  rw [List.length_cons] at h3 h14
  rw [f_X13_pop, q_X13_pop_0, h3, show hM x.1 r + (L.length + 1) = hM x.1 r + L.length + 1 from rfl, i_pred]
  have e1 : (sI σ 23 0 37 (Int32.ofNat (hM x.1 r + L.length))).1 23 0 37 = Int32.ofNat (hM x.1 r + L.length) := by rw [gI, if_pos ⟨rfl, rfl, rfl⟩]
  rw [e1, ix_nat (by omega) (by omega)]
  have e2 : (sI σ 23 0 37 (Int32.ofNat (hM x.1 r + L.length))).1 81 0 (hM x.1 r + L.length) = c := by
    have := a5 0 c rfl
    rw [List.length_cons, show L.length + 1 - 1 - 0 = L.length by omega] at this
    exact this
  rw [e2]
  refine ⟨_, rfl, w, h1, h2, e1, h4, h5, h6, h7, ⟨a1, a2, a3, a4, fun i e hi => ?_, a6⟩, MF_s (σ := σ) r (fun j hj => rfl) (fun j _ => rfl) (fun j _ => ⟨rfl, rfl, rfl⟩) h12, TrM_s (σ := σ) rfl (fun t j h1 h2 _ => by rw [gI, if_neg (by omega)]) h13, by omega, h15⟩
  have := a5 (i + 1) e hi
  rw [List.length_cons, show L.length + 1 - 1 - (i + 1) = L.length - 1 - i by omega] at this
  exact this
theorem mk_name {z : Nat × Int32} (h : MG x mi W K nm L H q r nx fu σ) (hz : z ∈ K) : z.1 < 24 ∧ (24 : Int32) * σ.1 23 0 39 + Int32.ofNat z.1 = Int32.ofNat (24 * r.length + z.1) ∧ σ.1 82 0 (24 * r.length + z.1) = mV z.2 (nm z.1) := by
  obtain ⟨w, h1, h2, h3, h4, h5, h6, h7, ⟨a1, a2, a3, a4, a5, a6⟩, -⟩ := h
  exact ⟨a6 z hz, by rw [h4, show (24 : Int32) = Int32.ofNat 24 from rfl, ← Int32.ofNat_mul, ← Int32.ofNat_add], a4 z hz⟩
theorem m_setName (h : MG x mi W K nm L H q r nx fu σ) (hn : n < 24) : MG x mi W (gSet n t K) (fset nm n c) L H q r nx fu (sI σ 82 0 (24 * r.length + n) (mV t c)) := by
  obtain ⟨w, h1, h2, h3, h4, h5, h6, h7, ⟨a1, a2, a3, a4, a5, a6⟩, h12, h13, h14, h15⟩ := h
  refine ⟨w, h1, h2, h3, h4, h5, h6, h7, ⟨a1, a2, a3, fun y hy => ?_, a5, fun y hy => ?_⟩, MF_s (σ := σ) r (fun j hj => rfl) (fun j hj => ?_) (fun j _ => ⟨rfl, rfl, rfl⟩) h12, TrM_s (σ := σ) rfl (fun t j h1 h2 _ => by rw [gI, if_neg (by omega)]) h13, h14, h15⟩
  · unfold fset
    rcases List.mem_cons.mp hy with z | z
    · rw [z, gI, if_pos ⟨rfl, rfl, rfl⟩, if_pos rfl]
    · obtain ⟨z1, z2⟩ := List.mem_filter.mp z
      have z2 : y.1 ≠ n := by simpa using z2
      rw [gI, if_neg (by omega), if_neg z2]; exact a4 y z1
  · rcases List.mem_cons.mp hy with z | z
    · rw [z]; exact hn
    · exact a6 y (List.mem_filter.mp z).1
  · rw [gI, if_neg (by omega)]
/-! the yards' methods of the reference -/
def my_M (k : Nat) : Bool := (Nat.ble 181 k && Nat.ble k 186) || ((Nat.ble 246 k && Nat.ble k 252) || (k == 268 || (k == 269 || ((Nat.ble 271 k && Nat.ble k 276) || Nat.ble 294 k))))
def my_A : sm_A := fun q t k => match q with
  | 0 => (t == 23 && (k == 60 || k == 61)) || t == 75 || t == 79 || (Nat.ble 90 t && Nat.ble t 96)
  | _ => false
theorem my_ok : (List.range 308).all (fun k => !(my_M k) || (sm_cd k).all (sm_ckA true my_A my_M)) = true := by decide +kernel
theorem my_fr {k : Nat} {As : List sm_V} {o : sm_O} {t : sm_S} (hk : my_M k = true) (h : sm_callM X true d k As σ = some (o, t)) : sm_fr my_A σ t := by
  refine sm_callM_fr (fun k hk hM => ?_) d k As σ o t hk h
  have := List.all_eq_true.mp my_ok k (List.mem_range.mpr hk)
  rw [hM] at this
  exact this
theorem MG_y {As : List sm_V} {o : sm_O} (hk : my_M k = true) (e1 : sm_callM X true d k As σ = some (o, σ')) (h : MG x mi W K nm L H q r nx fu σ) (hw : MW W' σ') : MG x mi W' K nm L H q r nx fu σ' := by
  obtain ⟨l1, -, l3, -⟩ := my_fr hk e1
  refine ⟨hw, MSt_i (fun t i k ht => l1 t i k ?_) (l3 23 0 6 rfl) h.2⟩
  show ((t == 23 && (sm_nk t k == 60 || sm_nk t k == 61)) || t == 75 || t == 79 || (Nat.ble 90 t && Nat.ble t 96)) = false
  have e1 : (t == 23 && (sm_nk t k == 60 || sm_nk t k == 61)) = false := by
    by_cases z : t = 23
    · subst z
      show (sm_nk 23 k == 60 || sm_nk 23 k == 61) = false
      show (k == 60 || k == 61) = false
      rw [show (k == 60) = false by simp; omega, show (k == 61) = false by simp; omega]; rfl
    · rw [show (t == 23) = false by simp; omega]; rfl
  have e2 : (Nat.ble 90 t && Nat.ble t 96) = false := by
    rw [show Nat.ble 90 t = false by
      cases hq : Nat.ble 90 t with
      | false => rfl
      | true => have := Nat.le_of_ble_eq_true hq; omega]
    rfl
  rw [e1, e2, show (t == 75) = false by simp; omega, show (t == 79) = false by simp; omega]
  rfl
end
