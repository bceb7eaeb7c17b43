section
/-! A TEXT AS IT STANDS BEHIND A LOAD: items, catches, procs -/
variable {X : Nat × (Nat → Int32)} {d : Nat} {s σ σ' : sm_S} {ci cj mi mj N : Nat} {O : Nat → Nat → Nat → Int32} {T : zT} {a b : zA} {R : Nat → Int32} {e : Nat}
abbrev zTx : Type := List zI × List Nat × List zP
def PQt (l : List zI) (ps : List zP) (ci : Nat) (σ : sm_S) : Prop := σ.1 10 ci 9 = Int32.ofNat (5 + ps.length) ∧ ps.length ≤ 12 ∧
  ∀ (i : Nat) (q : zP), ps[i]? = some q → q.2.2.2 ≤ l.length ∧ σ.1 35 ci (5 + i) = Int32.ofNat (pos vC l q.2.2.2) ∧ q.2.2.1.length ≤ 4 ∧ σ.1 36 ci (5 + i) = Int32.ofNat q.2.2.1.length ∧ σ.1 38 ci (5 + i) = q.2.1 ∧ ∀ j t, q.2.2.1[j]? = some t → σ.1 37 ci ((5 + i) * 4 + j) = t
def CTx (x : zTx) (ci : Nat) (σ : sm_S) : Prop := CV x.1 x.2.1 [] ci σ ∧ PQt x.1 x.2.2 ci σ
def MQt (l : List zI) (ps : List zP) (mi : Nat) (σ : sm_S) : Prop := σ.1 22 mi 0 = Int32.ofNat ps.length ∧ ps.length ≤ 12 ∧
  ∀ (i : Nat) (q : zP), ps[i]? = some q → q.2.2.2 ≤ l.length ∧ σ.1 62 mi i = Int32.ofNat (pos vM l q.2.2.2) ∧ q.2.2.1.length ≤ 4 ∧ σ.1 60 mi i = Int32.ofNat q.2.2.1.length ∧ σ.1 59 mi i = q.2.1 ∧ ∀ j t, q.2.2.1[j]? = some t → σ.1 61 mi (4 * i + j) = t
def MTx (x : zTx) (mi : Nat) (σ : sm_S) : Prop := MV x.1 mi σ ∧ MQt x.1 x.2.2 mi σ
theorem PQt_of {l : List zI} {ps : List zP} (h : PQ l ps ci σ) : PQt l ps ci σ :=
  ⟨h.1, h.2.1, fun i q hi => (h.2.2.2 i q hi).2.2⟩
theorem MQt_of {l : List zI} {ps : List zP} (h : MQp l ps ps.length mi σ) : MQt l ps mi σ := by
  refine ⟨h.1, h.2.1, fun i q hi => ?_⟩
  obtain ⟨-, -, a1, a2, a3, a4, a5, a6⟩ := h.2.2.2 i q hi
  exact ⟨a1, a2 (List.getElem?_eq_some_iff.mp hi).1, a3, a4, a5, a6⟩
/-- what a code has is read from its own rows alone -/
theorem CTx_s {x : zTx} (hs : ∀ t k, (t = 10 ∨ (30 ≤ t ∧ t ≤ 38)) → σ'.1 t ci k = σ.1 t ci k) (h : CTx x ci σ) : CTx x ci σ' := by
  obtain ⟨⟨a1, a2, a3, a4, a5, a6⟩, b1, b2, b3⟩ := h
  refine ⟨⟨?_, fun k e hk hv => ?_, ?_, fun j t hj => ?_, ?_, a6⟩, ?_, b2, fun i q hi => ?_⟩
  · rw [hs _ _ (by omega)]; exact a1
  · obtain ⟨c1, c2, c3, c4⟩ := a2 k e hk hv
    exact ⟨by rw [hs _ _ (by omega)]; exact c1, by rw [hs _ _ (by omega)]; exact c2, by rw [hs _ _ (by omega)]; exact c3, by rw [hs _ _ (by omega)]; exact c4⟩
  · rw [hs _ _ (by omega)]; exact a3
  · rw [hs _ _ (by omega)]; exact a4 j t hj
  · rw [hs _ _ (by omega)]; exact a5
  · rw [hs _ _ (by omega)]; exact b1
  · obtain ⟨c1, c2, c3, c4, c5, c6⟩ := b3 i q hi
    exact ⟨c1, by rw [hs _ _ (by omega)]; exact c2, c3, by rw [hs _ _ (by omega)]; exact c4, by rw [hs _ _ (by omega)]; exact c5, fun j t hj => by rw [hs _ _ (by omega)]; exact c6 j t hj⟩
theorem MTx_s {x : zTx} (hs : ∀ t k, (t = 22 ∨ (59 ≤ t ∧ t ≤ 66)) → σ'.1 t mi k = σ.1 t mi k) (h : MTx x mi σ) : MTx x mi σ' := by
  obtain ⟨⟨a1, a2, a3⟩, b1, b2, b3⟩ := h
  refine ⟨⟨?_, fun k e hk hv => ?_, a3⟩, ?_, b2, fun i q hi => ?_⟩
  · rw [hs _ _ (by omega)]; exact a1
  · obtain ⟨c1, c2, c3, c4⟩ := a2 k e hk hv
    exact ⟨by rw [hs _ _ (by omega)]; exact c1, by rw [hs _ _ (by omega)]; exact c2, by rw [hs _ _ (by omega)]; exact c3, by rw [hs _ _ (by omega)]; exact c4⟩
  · rw [hs _ _ (by omega)]; exact b1
  · obtain ⟨c1, c2, c3, c4, c5, c6⟩ := b3 i q hi
    exact ⟨c1, by rw [hs _ _ (by omega)]; exact c2, c3, by rw [hs _ _ (by omega)]; exact c4, by rw [hs _ _ (by omega)]; exact c5, fun j t hj => by rw [hs _ _ (by omega)]; exact c6 j t hj⟩
/-! what a text's reading leaves -/
theorem Text_T (hT : TK T N) : ∀ (f : Nat) (a b : zA) (y : Int32), TI a → a_p a ≤ 800 → a_b a = (a_q a).length → zText T f a = .inr (y, b) → TI b ∧ a_b b = (a_q b).length
  | 0, _, _, _, _, _, _, h => by cases h
  | f + 1, a, b, y, hi, hp, hb, h => by
    rw [zText] at h
    cases hz : zProc T a with
    | inl e => rw [hz] at h; cases h
    | inr x =>
      obtain ⟨t, a1⟩ := x
      rw [hz] at h
      obtain ⟨i1, -, l1⟩ := Proc_T hT hi hp hz
      have b1 := Proc_Q hT hi hp hb hz
      have h : (if T.1 (a_p a1) = 6 then (Sum.inr (0, a1) : zR) else zText T f a1) = .inr (y, b) := h
      by_cases k : T.1 (a_p a1) = 6
      · rw [if_pos k] at h
        have h := congrArg Prod.snd (Sum.inr.inj h)
        have h : a1 = b := h
        rw [← h]; exact ⟨i1, b1⟩
      · rw [if_neg k] at h
        exact Text_T hT f a1 b y i1 l1 b1 h
/-! what both readers keep between two loads -/
def NB (σ : sm_S) : Prop := (∃ n, n ≤ 24 ∧ σ.1 14 0 3 = Int32.ofNat n) ∧ (∃ n, n ≤ 24 ∧ σ.1 14 0 4 = Int32.ofNat n) ∧ ∀ i, i < 24 → ∃ n, n < 24 ∧ σ.1 49 0 i = Int32.ofNat n
def P4 (ci : Nat) (σ : sm_S) : Prop := ∀ p, p < 17 → ∃ n, n ≤ 4 ∧ σ.1 36 ci p = Int32.ofNat n
/-- the class's reader: text cj, spare ci -/
def CRd (x : zTx) (ci cj : Nat) (σ : sm_S) : Prop := CTx x cj σ ∧ F5 ci σ ∧ F5 cj σ ∧ P4 ci σ ∧ P4 cj σ ∧ NB σ ∧ σ.2.2.1 21 0 5 = (10, cj) ∧ σ.2.2.1 21 0 6 = (10, ci) ∧ ci ≠ cj
def MRd (x : zTx) (mi mj : Nat) (σ : sm_S) : Prop := MTx x mj σ ∧ σ.2.2.1 23 0 6 = (22, mj) ∧ σ.2.2.1 23 0 7 = (22, mi) ∧ mi ≠ mj
/-! what a load writes -/
def cl_M (k : Nat) : Bool := k == 168 || ((Nat.ble 82 k && Nat.ble k 119) || ((Nat.ble 132 k && Nat.ble k 143) || ((Nat.ble 1 k && Nat.ble k 29) || ((Nat.ble 73 k && Nat.ble k 80) || (k == 148 || Nat.ble 294 k)))))
def cl_A : sm_A := fun q t k => match q with
  | 0 => t == 10 || t == 14 || t == 15 || t == 17 || (Nat.ble 30 t && Nat.ble t 38) || t == 48 || t == 49 || t == 53 || t == 54
  | 1 => t == 15 || t == 47 || t == 50 || t == 55
  | 2 => (t == 15 && k == 3) || (t == 21 && (k == 5 || k == 6))
  | _ => false
theorem cl_ok : (List.range 308).all (fun k => !(cl_M k) || (sm_cd k).all (sm_ckA true cl_A cl_M)) = true := by decide +kernel
theorem cl_fr {k : Nat} {As : List sm_V} {o : sm_O} {t : sm_S} (hk : cl_M k = true) (h : sm_callM X true d k As σ = some (o, t)) : sm_fr cl_A σ t := by
  refine sm_callM_fr (fun k hk hM => ?_) d k As σ o t hk h
  have := List.all_eq_true.mp cl_ok k (List.mem_range.mpr hk)
  rw [hM] at this
  exact this
def ml_M (k : Nat) : Bool := k == 280 || ((Nat.ble 181 k && Nat.ble k 245) || Nat.ble 294 k)
def ml_A : sm_A := fun q t k => match q with
  | 0 => t == 22 || (t == 23 && (k == 1 || k == 5 || (Nat.ble 9 k && Nat.ble k 16) || (Nat.ble 20 k && Nat.ble k 23))) || (Nat.ble 59 t && Nat.ble t 66) || t == 68 || t == 69 || t == 72 || t == 73
  | 1 => t == 58 || t == 70 || t == 71
  | 2 => t == 23 && (k == 6 || k == 7)
  | _ => false
theorem ml_ok : (List.range 308).all (fun k => !(ml_M k) || (sm_cd k).all (sm_ckA true ml_A ml_M)) = true := by decide +kernel
theorem ml_fr {k : Nat} {As : List sm_V} {o : sm_O} {t : sm_S} (hk : ml_M k = true) (h : sm_callM X true d k As σ = some (o, t)) : sm_fr ml_A σ t := by
  refine sm_callM_fr (fun k hk hM => ?_) d k As σ o t hk h
  have := List.all_eq_true.mp ml_ok k (List.mem_range.mpr hk)
  rw [hM] at this
  exact this
/-! the scan and the cut alone -/
def ct_M (k : Nat) : Bool := (Nat.ble 132 k && Nat.ble k 143) || Nat.ble 294 k
def ct_A : sm_A := fun q t _ => match q with
  | 0 => t == 17 || t == 53 || t == 54
  | 1 => t == 55
  | _ => false
theorem ct_ok : (List.range 308).all (fun k => !(ct_M k) || (sm_cd k).all (sm_ckA true ct_A ct_M)) = true := by decide +kernel
theorem ct_fr {k : Nat} {As : List sm_V} {o : sm_O} {t : sm_S} (hk : ct_M k = true) (h : sm_callM X true d k As σ = some (o, t)) : sm_fr ct_A σ t := by
  refine sm_callM_fr (fun k hk hM => ?_) d k As σ o t hk h
  have := List.all_eq_true.mp ct_ok k (List.mem_range.mpr hk)
  rw [hM] at this
  exact this
def sc_M (k : Nat) : Bool := (Nat.ble 187 k && Nat.ble k 199) || Nat.ble 294 k
def sc_A : sm_A := fun q t k => match q with
  | 0 => (t == 23 && k == 5) || t == 68 || t == 69
  | 1 => t == 70
  | _ => false
theorem sc_ok : (List.range 308).all (fun k => !(sc_M k) || (sm_cd k).all (sm_ckA true sc_A sc_M)) = true := by decide +kernel
theorem sc_fr {k : Nat} {As : List sm_V} {o : sm_O} {t : sm_S} (hk : sc_M k = true) (h : sm_callM X true d k As σ = some (o, t)) : sm_fr sc_A σ t := by
  refine sm_callM_fr (fun k hk hM => ?_) d k As σ o t hk h
  have := List.all_eq_true.mp sc_ok k (List.mem_range.mpr hk)
  rw [hM] at this
  exact this
/-! the reader alone -/
def rd_M (k : Nat) : Bool := (Nat.ble 82 k && Nat.ble k 119) || (k == 133 || k == 134 || ((Nat.ble 1 k && Nat.ble k 29) || ((Nat.ble 73 k && Nat.ble k 80) || (k == 148 || Nat.ble 294 k))))
def rd_A : sm_A := fun q t k => match q with
  | 0 => t == 10 || t == 14 || t == 15 || (Nat.ble 30 t && Nat.ble t 38) || t == 48 || t == 49
  | 1 => t == 15 || t == 47 || t == 50
  | 2 => t == 15 && k == 3
  | _ => false
theorem rd_ok : (List.range 308).all (fun k => !(rd_M k) || (sm_cd k).all (sm_ckA true rd_A rd_M)) = true := by decide +kernel
theorem rd_fr {k : Nat} {As : List sm_V} {o : sm_O} {t : sm_S} (hk : rd_M k = true) (h : sm_callM X true d k As σ = some (o, t)) : sm_fr rd_A σ t := by
  refine sm_callM_fr (fun k hk hM => ?_) d k As σ o t hk h
  have := List.all_eq_true.mp rd_ok k (List.mem_range.mpr hk)
  rw [hM] at this
  exact this
/-! the reference's text alone -/
def tx_M (k : Nat) : Bool := (Nat.ble 181 k && Nat.ble k 245) && !(Nat.ble 195 k && Nat.ble k 199) || Nat.ble 294 k
def tx_A : sm_A := fun q t k => match q with
  | 0 => t == 22 || (t == 23 && (Nat.ble 9 k && Nat.ble k 23)) || (Nat.ble 59 t && Nat.ble t 66) || t == 72 || t == 73
  | 1 => t == 58 || t == 71
  | _ => false
theorem tx_ok : (List.range 308).all (fun k => !(tx_M k) || (sm_cd k).all (sm_ckA true tx_A tx_M)) = true := by decide +kernel
theorem tx_fr {k : Nat} {As : List sm_V} {o : sm_O} {t : sm_S} (hk : tx_M k = true) (h : sm_callM X true d k As σ = some (o, t)) : sm_fr tx_A σ t := by
  refine sm_callM_fr (fun k hk hM => ?_) d k As σ o t hk h
  have := List.all_eq_true.mp tx_ok k (List.mem_range.mpr hk)
  rw [hM] at this
  exact this
end
