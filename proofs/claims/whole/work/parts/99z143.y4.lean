section
/-! VALUES OF A TYPE; THE WORLD GROWS -/
variable {W W' W'' : zW} {t u c : Int32} {S ops : List Int32}
/-- value c is of type t -/
def VT (W : zW) (t c : Int32) : Prop := t = 36 ∨ t = 38 ∨ c = 0 ∨ (t < 18 ∧ ∃ v k, v < (w_v W).length ∧ c = rfV v ∧ k < 13 ∧ (vehAt W v).1 = Int32.ofNat k ∧ cBel (Int32.ofNat k) t = 1) ∨ (¬ t < 18 ∧ t ≠ 37 ∧ ∃ n k, n < (w_r W).length ∧ c = rfR n ∧ k < 18 ∧ (rowAt W n).1 = Int32.ofNat k ∧ cBel (Int32.ofNat (18 + k)) t = 1)
def VTs (W : zW) (S ops : List Int32) : Prop := S.length = ops.length ∧ ∀ (i : Nat) (t c : Int32), S[i]? = some t → ops[i]? = some c → VT W t c
/-- kinds stay -/
def WLe (W W' : zW) : Prop := (w_v W).length ≤ (w_v W').length ∧ (w_r W).length ≤ (w_r W').length ∧ (∀ v, v < (w_v W).length → (vehAt W' v).1 = (vehAt W v).1) ∧ ∀ n, n < (w_r W).length → (rowAt W' n).1 = (rowAt W n).1 ∧ (rowAt W' n).2.length = (rowAt W n).2.length
theorem WLe.refl (W : zW) : WLe W W := ⟨Nat.le_refl _, Nat.le_refl _, fun _ _ => rfl, fun _ _ => ⟨rfl, rfl⟩⟩
theorem WLe.trans (h : WLe W W') (k : WLe W' W'') : WLe W W'' := ⟨Nat.le_trans h.1 k.1, Nat.le_trans h.2.1 k.2.1, fun v hv => (k.2.2.1 v (Nat.lt_of_lt_of_le hv h.1)).trans (h.2.2.1 v hv), fun n hn => ⟨(k.2.2.2 n (Nat.lt_of_lt_of_le hn h.2.1)).1.trans (h.2.2.2 n hn).1, (k.2.2.2 n (Nat.lt_of_lt_of_le hn h.2.1)).2.trans (h.2.2.2 n hn).2⟩⟩
theorem VT_le (h : WLe W W') (k : VT W t c) : VT W' t c := by
  rcases k with k | k | k | ⟨k1, v, q, k2, k3, k4, k5, k6⟩ | ⟨k1, k0, n, q, k2, k3, k4, k5, k6⟩
  · exact Or.inl k
  · exact Or.inr (Or.inl k)
  · exact Or.inr (Or.inr (Or.inl k))
  · exact Or.inr (Or.inr (Or.inr (Or.inl ⟨k1, v, q, Nat.lt_of_lt_of_le k2 h.1, k3, k4, (h.2.2.1 v k2).trans k5, k6⟩)))
  · exact Or.inr (Or.inr (Or.inr (Or.inr ⟨k1, k0, n, q, Nat.lt_of_lt_of_le k2 h.2.1, k3, k4, (h.2.2.2 n k2).1.trans k5, k6⟩)))
theorem VTs_le (h : WLe W W') (k : VTs W S ops) : VTs W' S ops := ⟨k.1, fun i t c h1 h2 => VT_le h (k.2 i t c h1 h2)⟩
theorem lt18 {n : Nat} (h : n < 36) : (Int32.ofNat n < 18) ↔ n < 18 := by
  rw [show (18 : Int32) = Int32.ofNat 18 from rfl, i_lt (by omega) (by omega)]
/-- what fits is of the type -/
theorem VT_fit (h : VT W u c) (hf : cFit u t = 1) : VT W t c := by
  unfold cFit at hf
  by_cases q37 : u = 37
  · subst q37
    rcases h with h | h | h | ⟨h, -⟩ | ⟨-, h, -⟩
    · exact absurd h (by decide)
    · exact absurd h (by decide)
    · exact Or.inr (Or.inr (Or.inl h))
    · exact absurd h (by decide)
    · exact absurd rfl h
  · rw [if_neg q37] at hf
    by_cases q36 : u = 36
    · rw [if_pos q36] at hf
      by_cases r : t = 36
      · exact Or.inl r
      · rw [if_neg r] at hf; exact absurd hf (by decide)
    · rw [if_neg q36] at hf
      obtain ⟨⟨a, ha, rfl⟩, b, hb, rfl⟩ := bel_rng hf
      rcases h with h | h | h | ⟨h1, v, k, h2, h3, h4, h5, h6⟩ | ⟨h1, -, n, k, h2, h3, h4, h5, h6⟩
      · exact absurd h q36
      · exfalso
        rw [show (38 : Int32) = Int32.ofNat 38 from rfl, i_eq (by omega) (by omega)] at h
        omega
      · exact Or.inr (Or.inr (Or.inl h))
      · have ha' := (lt18 ha).mp h1
        have hb' : b < 18 := by
          rcases Nat.lt_or_ge b 18 with z | z
          · exact z
          · exfalso
            have := (bel_row a ha' (b - 18) (by omega)).2.2
            rw [show 18 + (b - 18) = b by omega, hf] at this
            exact absurd this (by decide)
        exact Or.inr (Or.inr (Or.inr (Or.inl ⟨(lt18 hb).mpr hb', v, k, h2, h3, h4, h5, bel_tr k (by omega) a ha' b hb' h6 hf⟩)))
      · have ha' : 18 ≤ a := by
          rcases Nat.lt_or_ge a 18 with z | z
          · exact absurd ((lt18 ha).mpr z) h1
          · exact z
        have hb' : 18 ≤ b := by
          rcases Nat.lt_or_ge b 18 with z | z
          · exfalso
            have := (bel_row (a - 18) (by omega) b z).2.1
            rw [show 18 + (a - 18) = a by omega, hf] at this
            exact absurd this (by decide)
          · exact z
        refine Or.inr (Or.inr (Or.inr (Or.inr ⟨fun z => by have := (lt18 hb).mp z; omega, ?_, n, k, h2, h3, h4, h5, ?_⟩)))
        · rw [show (37 : Int32) = Int32.ofNat 37 from rfl, Ne, i_eq (by omega) (by omega)]; omega
        · have e1 := (bel_row k h4 (a - 18) (by omega)).1
          have e2 := (bel_row (a - 18) (by omega) (b - 18) (by omega)).1
          have e3 := (bel_row k h4 (b - 18) (by omega)).1
          rw [show 18 + (a - 18) = a by omega] at e1 e2
          rw [show 18 + (b - 18) = b by omega] at e2 e3
          rw [e3]
          exact bel_tr k h4 (a - 18) (by omega) (b - 18) (by omega) (by rw [← e1]; exact h6) (by rw [← e2]; exact hf)
/-- how the reference tells a value of a type -/
def mV (t c : Int32) : Int32 := if t = 36 ∨ t = 38 then c else if c < 0 then 1000 - c else c
/-- references of one world told by the reference are alike only if they are alike -/
theorem mV_row {n : Nat} (h : n < 1000) (h36 : t ≠ 36) (h38 : t ≠ 38) : mV t (rfR n) = Int32.ofNat (1001 + n) := by
  unfold mV
  rw [if_neg (fun z => z.elim h36 h38), if_pos (rfR_neg h)]
  unfold rfR
  rw [Int32.sub_neg, show (1000 : Int32) = Int32.ofNat 1000 from rfl, ← Int32.ofNat_add]
  congr 1; omega
theorem mV_veh {n : Nat} (h : n < 1000) : mV t (rfV n) = Int32.ofNat (n + 1) := by
  unfold mV
  rw [if_neg (rfV_pos h).1, ite_self]; rfl
theorem mV_0 : mV t 0 = 0 := by
  unfold mV; rw [if_neg (show ¬ (0 : Int32) < 0 by decide), ite_self]
end
