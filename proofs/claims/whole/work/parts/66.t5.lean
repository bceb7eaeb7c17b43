section
/-! NAMES AS NUMBERS: both ways of packing are one to one -/
variable {X : Nat × (Nat → Int32)} {d : Nat} {s : sm_S}
abbrev tN (x : Int64) : Nat := x.toBitVec.toNat
theorem tN_c : ∀ n, n < 128 → tN (Int32.ofNat n).toInt64 = n := by decide +kernel
theorem or_add (a c k : Nat) (hc : c < 2 ^ k) : (a <<< k) ||| c = a * 2 ^ k + c := by
  rw [← Nat.shiftLeft_add_eq_or_of_lt hc, Nat.shiftLeft_eq]
theorem sh7 (a : Int64) (c : Nat) (hc : c < 128) (ha : tN a < 2 ^ 56) : tN ((a <<< ((7 : Int32).toInt64 &&& 63)) ||| (Int32.ofNat c).toInt64) = tN a * 128 + c := by
  have e1 : ((7 : Int32).toInt64 &&& 63) = 7 := by decide
  rw [e1]
  show ((a <<< (7 : Int64)) ||| (Int32.ofNat c).toInt64).toBitVec.toNat = _
  rw [Int64.toBitVec_or, BitVec.toNat_or, Int64.toBitVec_shiftLeft]
  have e2 : ((7 : Int64).toBitVec.smod 64) = 7#64 := by decide
  rw [e2]
  show (a.toBitVec <<< (7#64)).toNat ||| tN (Int32.ofNat c).toInt64 = _
  rw [tN_c c hc]
  have e3 : (a.toBitVec <<< (7#64)).toNat = a.toBitVec.toNat <<< 7 := by
    show (a.toBitVec <<< (7#64).toNat).toNat = _
    rw [BitVec.toNat_shiftLeft]
    show a.toBitVec.toNat <<< 7 % 2 ^ 64 = _
    have ha : a.toBitVec.toNat < 2 ^ 56 := ha
    rw [Nat.mod_eq_of_lt]
    rw [Nat.shiftLeft_eq]; omega
  rw [e3, or_add _ _ 7 hc]
theorem sh8 (a : Int64) (c : Nat) (hc : c < 128) (ha : tN a < 2 ^ 56) : tN ((a <<< ((8 : Int32).toInt64 &&& 63)) ||| (Int32.ofNat c).toInt64) = tN a * 256 + c := by
  have e1 : ((8 : Int32).toInt64 &&& 63) = 8 := by decide
  rw [e1]
  show ((a <<< (8 : Int64)) ||| (Int32.ofNat c).toInt64).toBitVec.toNat = _
  rw [Int64.toBitVec_or, BitVec.toNat_or, Int64.toBitVec_shiftLeft]
  have e2 : ((8 : Int64).toBitVec.smod 64) = 8#64 := by decide
  rw [e2]
  show (a.toBitVec <<< (8#64)).toNat ||| tN (Int32.ofNat c).toInt64 = _
  rw [tN_c c hc]
  have e3 : (a.toBitVec <<< (8#64)).toNat = a.toBitVec.toNat <<< 8 := by
    show (a.toBitVec <<< (8#64).toNat).toNat = _
    rw [BitVec.toNat_shiftLeft]
    show a.toBitVec.toNat <<< 8 % 2 ^ 64 = _
    have ha : a.toBitVec.toNat < 2 ^ 56 := ha
    rw [Nat.mod_eq_of_lt]
    rw [Nat.shiftLeft_eq]; omega
  rw [e3, or_add _ _ 8 (by omega)]
/-- a name: at most eight signs -/
def nmOk (l : List Int32) : Prop := l.length ≤ 8 ∧ ∀ c ∈ l, 0 < c ∧ c < 128
def nf (B : Nat) : List Int32 → Nat → Nat
  | [], a => a
  | c :: r, a => nf B r (a * B + c.toNatClampNeg)
theorem chr_nat {c : Int32} (h : 0 < c ∧ c < 128) : ∃ n, 0 < n ∧ n < 128 ∧ c = Int32.ofNat n := by
  have h0 : ¬ c < 0 := fun q => by
    have e1 := Int32.lt_iff_toInt_lt.mp q
    have e2 := Int32.lt_iff_toInt_lt.mp h.1
    omega
  obtain ⟨n, hn, rfl⟩ := i32_nat (n := 128) (by decide) h0 h.2
  refine ⟨n, ?_, hn, rfl⟩
  have := (i_lt (a := 0) (b := n) (by decide) (by omega)).mp h.1
  exact this
theorem pk7_nf : ∀ (l : List Int32) (a : Int64) (k : Nat), (∀ c ∈ l, 0 < c ∧ c < 128) → k + l.length ≤ 8 → tN a < 2 ^ (8 * k) → tN (pk7 l a) = nf 128 l (tN a)
  | [], a, k, _, _, _ => rfl
  | c :: r, a, k, hc, hk, ha => by
    obtain ⟨n, n0, n1, rfl⟩ := chr_nat (hc c List.mem_cons_self)
    have hk2 : k + (r.length + 1) ≤ 8 := hk
    have h56 : tN a < 2 ^ 56 := Nat.lt_of_lt_of_le ha (Nat.pow_le_pow_right (by decide) (by omega))
    have e := sh7 a n n1 h56
    rw [pk7, nf, i_tn (by omega)]
    rw [pk7_nf r _ (k + 1) (fun c h => hc c (List.mem_cons_of_mem _ h)) (by omega) (by
      rw [e, show 8 * (k + 1) = 8 * k + 8 by omega, Nat.pow_add]
      omega), e]
theorem pk8_nf : ∀ (l : List Int32) (a : Int64) (k : Nat), (∀ c ∈ l, 0 < c ∧ c < 128) → k + l.length ≤ 8 → tN a < 2 ^ (8 * k) → tN (pk8 l a) = nf 256 l (tN a)
  | [], a, k, _, _, _ => rfl
  | c :: r, a, k, hc, hk, ha => by
    obtain ⟨n, n0, n1, rfl⟩ := chr_nat (hc c List.mem_cons_self)
    have hk2 : k + (r.length + 1) ≤ 8 := hk
    have h56 : tN a < 2 ^ 56 := Nat.lt_of_lt_of_le ha (Nat.pow_le_pow_right (by decide) (by omega))
    have e := sh8 a n n1 h56
    rw [pk8, nf, i_tn (by omega)]
    rw [pk8_nf r _ (k + 1) (fun c h => hc c (List.mem_cons_of_mem _ h)) (by omega) (by
      rw [e, show 8 * (k + 1) = 8 * k + 8 by omega, Nat.pow_add]
      omega), e]
def ng (B : Nat) : List Int32 → Nat
  | [] => 0
  | c :: r => ng B r * B + c.toNatClampNeg
theorem nf_ng (B : Nat) : ∀ (l m : List Int32), nf B l (ng B m) = ng B (l.reverse ++ m)
  | [], m => rfl
  | c :: r, m => by
    rw [nf, List.reverse_cons, List.append_assoc]
    exact nf_ng B r (c :: m)
theorem ng_inj {B : Nat} (hB : 128 ≤ B) : ∀ (l m : List Int32), (∀ c ∈ l, 0 < c ∧ c < 128) → (∀ c ∈ m, 0 < c ∧ c < 128) → ng B l = ng B m → l = m
  | [], [], _, _, _ => rfl
  | [], c :: r, _, h, e => by
    obtain ⟨n, n0, n1, rfl⟩ := chr_nat (h c List.mem_cons_self)
    have e : 0 = ng B r * B + (Int32.ofNat n).toNatClampNeg := e
    rw [i_tn (by omega)] at e
    omega
  | c :: r, [], h, _, e => by
    obtain ⟨n, n0, n1, rfl⟩ := chr_nat (h c List.mem_cons_self)
    have e : ng B r * B + (Int32.ofNat n).toNatClampNeg = 0 := e
    rw [i_tn (by omega)] at e
    omega
  | c :: r, c' :: r', h, h', e => by
    obtain ⟨n, n0, n1, rfl⟩ := chr_nat (h c List.mem_cons_self)
    obtain ⟨n', n0', n1', rfl⟩ := chr_nat (h' c' List.mem_cons_self)
    have e : ng B r * B + (Int32.ofNat n).toNatClampNeg = ng B r' * B + (Int32.ofNat n').toNatClampNeg := e
    rw [i_tn (by omega), i_tn (by omega)] at e
    have e1 : n = n' := by
      have := congrArg (· % B) e
      simp only [Nat.mul_add_mod_self_right] at this
      rwa [Nat.mod_eq_of_lt (by omega), Nat.mod_eq_of_lt (by omega)] at this
    subst e1
    have e2 : ng B r = ng B r' := Nat.eq_of_mul_eq_mul_right (show 0 < B by omega) (by omega)
    rw [ng_inj hB r r' (fun c q => h c (List.mem_cons_of_mem _ q)) (fun c q => h' c (List.mem_cons_of_mem _ q)) e2]
theorem nf_inj {B : Nat} (hB : 128 ≤ B) {l m : List Int32} (hl : nmOk l) (hm : nmOk m) (h : nf B l 0 = nf B m 0) : l = m := by
  have e1 := nf_ng B l []
  have e2 := nf_ng B m []
  rw [List.append_nil] at e1 e2
  have h : nf B l (ng B []) = nf B m (ng B []) := h
  rw [e1, e2] at h
  have := ng_inj hB _ _ (fun c q => hl.2 c (List.mem_reverse.mp q)) (fun c q => hm.2 c (List.mem_reverse.mp q)) h
  exact List.reverse_inj.mp this
theorem tN_inj {x y : Int64} (h : tN x = tN y) : x = y := Int64.toBitVec_inj.mp (BitVec.eq_of_toNat_eq h)
theorem pk7_inj {l m : List Int32} (hl : nmOk l) (hm : nmOk m) : pk7 l 0 = pk7 m 0 ↔ l = m := by
  refine ⟨fun h => nf_inj (B := 128) (Nat.le_refl _) hl hm ?_, fun h => by rw [h]⟩
  have := congrArg tN h
  rw [pk7_nf l 0 0 hl.2 (by have := hl.1; omega) (by decide), pk7_nf m 0 0 hm.2 (by have := hm.1; omega) (by decide)] at this
  exact this
theorem pk8_inj {l m : List Int32} (hl : nmOk l) (hm : nmOk m) : pk8 l 0 = pk8 m 0 ↔ l = m := by
  refine ⟨fun h => nf_inj (B := 256) (by decide) hl hm ?_, fun h => by rw [h]⟩
  have := congrArg tN h
  rw [pk8_nf l 0 0 hl.2 (by have := hl.1; omega) (by decide), pk8_nf m 0 0 hm.2 (by have := hm.1; omega) (by decide)] at this
  exact this
/-- where a name stands in a list of names; -1: nowhere -/
def whr (l : List Int32) : List (List Int32) → Int32 → Int32
  | [], _ => -1
  | w :: r, i => if w = l then i else whr l r (i + 1)
theorem lk7 {l : List Int32} (hl : nmOk l) : ∀ (ws : List (List Int32)) (i : Int32), (∀ w ∈ ws, nmOk w) → lk (ws.map (fun w => pk7 w 0)) i (pk7 l 0) = whr l ws i
  | [], _, _ => rfl
  | w :: r, i, h => by
    rw [List.map_cons, lk, whr]
    have e := pk7_inj (h w List.mem_cons_self) hl
    by_cases q : w = l
    · rw [if_pos q, if_pos ((lgc _ _).mpr (e.mpr q))]
    · rw [if_neg q, if_neg (fun z => q (e.mp ((lgc _ _).mp z)))]
      exact lk7 hl r (i + 1) (fun w hw => h w (List.mem_cons_of_mem _ hw))
theorem lk8 {l : List Int32} (hl : nmOk l) : ∀ (ws : List (List Int32)) (i : Int32), (∀ w ∈ ws, nmOk w) → lk (ws.map (fun w => pk8 w 0)) i (pk8 l 0) = whr l ws i
  | [], _, _ => rfl
  | w :: r, i, h => by
    rw [List.map_cons, lk, whr]
    have e := pk8_inj (h w List.mem_cons_self) hl
    by_cases q : w = l
    · rw [if_pos q, if_pos ((lgc _ _).mpr (e.mpr q))]
    · rw [if_neg q, if_neg (fun z => q (e.mp ((lgc _ _).mp z)))]
      exact lk8 hl r (i + 1) (fun w hw => h w (List.mem_cons_of_mem _ hw))
end
