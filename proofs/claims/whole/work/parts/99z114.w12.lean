section
/-! STATEMENTS AND BLOCKS IN THE REFERENCE -/
variable {X : Nat × (Nat → Int32)} {d : Nat} {s σ : sm_S} {mi N : Nat} {O : Nat → Nat → Nat → Int32} {T : zT} {a b : zA} {t : Int32} {blk : zA → zR}
theorem SMV_r {r : sm_R} {z : zR} (h : SMV mi O T N r z) : SMV mi O T N (sm_bV r sm_tw (fun s => some (some none, s))) z := by
  rcases z with e | x
  · obtain ⟨σ', rfl, F⟩ := h; exact ⟨σ', rfl, F⟩
  · obtain ⟨σ', rfl, P⟩ := h; exact ⟨σ', rfl, P⟩
theorem sub_w {k j c : Int32} (hc : c = 200 + j) : k - 200 = j ↔ k = c := by
  subst hc
  constructor
  · intro z; rw [← z, Int32.add_comm, Int32.sub_add_cancel]
  · intro z; rw [z, Int32.add_comm, Int32.add_sub_cancel]
theorem m_stat {r : Nat} (hT : TK T N) (hE : HM X d mi O T N (zX_ T 11) 0) (hE1 : HM X d mi O T N (zX_ T 10) 1) (hB : BM X d mi O T N blk r) (hD : SubB tyOk blk) (hS : SM mi O T N a σ) (hr : a_r a = r) : SMV mi O T N (sm_callM X true (d + 22) 218 [vP (23, 0)] σ) (zStat T blk a) := by
  have h0 : PM mi O T N (aO a 0) (sI σ 23 0 13 0) := PM_op (n := 0) hS.1
  have S0 : SM mi O T N (aO a 0) (sI σ 23 0 13 0) := ⟨h0, hS.2⟩
  have hr0 : a_r (aO a 0) = r := hr
  have ho0 : a_o (aO a 0) = 0 := rfl
  rw [f_X13_statement, q_X13_statement_0]
  unfold zStat
  clear hS
  generalize sI σ 23 0 13 0 = σ at h0 S0 ⊢
  generalize aO a 0 = a at h0 S0 hr0 ho0 ⊢
  rw [PM_ix h0, PM_kd h0]
  unfold zSta
  have acts := SMV_r (m_acts (X := X) (d := d) hT hE hE1 S0 ho0)
  have w5 : ∀ c : Int32, mkd c = 5 → ¬ mkd (T.1 (a_p a)) = 5 → ¬ T.1 (a_p a) = c := fun c hc z w => z (by rw [w]; exact hc)
  by_cases q5 : mkd (T.1 (a_p a)) = 5
  · obtain ⟨n200, n3, n7⟩ := (mkd_v _).2.2.2.2 q5
    have v70 : Int64.toInt32 (σ.2.1 70 0 (a_p a)) = T.1 (a_p a) - 200 := by
      rw [PM_vl h0 n7]; unfold mvl; rw [if_neg n3, if_pos n200, Int32.toInt32_toInt64]
    rw [if_pos q5, PM_ix h0, v70, PM_at h0]
    by_cases k1 : T.1 (a_p a) = 201
    · rw [if_pos ((sub_w (by decide)).mpr k1), if_pos k1]; exact SMV_r (m_var (d := d) hT hE S0 k1 ho0)
    rw [if_neg (fun z => k1 ((sub_w (by decide)).mp z)), if_neg k1]
    by_cases k2 : T.1 (a_p a) = 202
    · rw [if_pos ((sub_w (by decide)).mpr k2), if_pos k2]; exact SMV_r (m_if hT hE1 hB hD S0 k2 ho0 hr0)
    rw [if_neg (fun z => k2 ((sub_w (by decide)).mp z)), if_neg k2]
    by_cases k3 : T.1 (a_p a) = 203
    · rw [if_pos ((sub_w (by decide)).mpr k3), if_neg (by rw [k3]; decide), if_neg (by rw [k3]; decide), if_neg (by rw [k3]; decide), if_neg (by rw [k3]; decide), if_neg (by rw [k3]; decide)]; exact acts
    rw [if_neg (fun z => k3 ((sub_w (by decide)).mp z))]
    by_cases k4 : T.1 (a_p a) = 204
    · rw [if_pos ((sub_w (by decide)).mpr k4), if_pos k4]; exact SMV_r (m_while hT hE1 hB hD S0 k4 ho0 hr0)
    rw [if_neg (fun z => k4 ((sub_w (by decide)).mp z)), if_neg k4]
    by_cases k5 : T.1 (a_p a) = 205
    · rw [if_pos ((sub_w (by decide)).mpr k5), if_pos k5]; exact SMV_r (m_try hT hB hD S0 k5 hr0)
    rw [if_neg (fun z => k5 ((sub_w (by decide)).mp z)), if_neg k5]
    by_cases k6 : T.1 (a_p a) = 206
    · rw [if_pos ((sub_w (by decide)).mpr k6), if_neg (by rw [k6]; decide), if_neg (by rw [k6]; decide), if_neg (by rw [k6]; decide)]; exact acts
    rw [if_neg (fun z => k6 ((sub_w (by decide)).mp z))]
    by_cases k7 : T.1 (a_p a) = 207
    · rw [if_pos ((sub_w (by decide)).mpr k7), if_pos k7]; exact SMV_r (m_gives hT hE S0 k7 ho0)
    rw [if_neg (fun z => k7 ((sub_w (by decide)).mp z)), if_neg k7]
    by_cases k8 : T.1 (a_p a) = 208
    · rw [if_pos ((sub_w (by decide)).mpr k8), if_pos k8]; exact m_say (d := d + 1) hT (HM_le hE) S0 k8 ho0
    rw [if_neg (fun z => k8 ((sub_w (by decide)).mp z)), if_neg k8]
    by_cases k9 : T.1 (a_p a) = 209
    · rw [if_pos ((sub_w (by decide)).mpr k9), if_pos k9]; exact m_fail (d := d + 1) hT (HM_le hE) S0 k9 ho0
    rw [if_neg (fun z => k9 ((sub_w (by decide)).mp z)), if_neg k9]
    exact acts
  · rw [if_neg q5, if_neg (w5 201 (by decide) q5), if_neg (w5 202 (by decide) q5), if_neg (w5 204 (by decide) q5), if_neg (w5 205 (by decide) q5), if_neg (w5 207 (by decide) q5), if_neg (w5 208 (by decide) q5), if_neg (w5 209 (by decide) q5)]
    exact acts
/-- the statements of a block, and its end -/
theorem m_stats {r : Nat} {kn : List (List Int32 × Int32 × Nat)} (hT : TK T N) (hE : HM X d mi O T N (zX_ T 11) 0) (hE1 : HM X d mi O T N (zX_ T 10) 1) (hB : BM X d mi O T N blk (r + 1)) (hD : SubB tyOk blk) (hr8 : r + 1 ≤ 8) : ∀ (f : Nat) (a : zA) (σ : sm_S), SM mi O T N a σ → a_r a = r + 1 → kn <+: a_k a → 801 ≤ f + a_p a →
    SMV mi O T N (sm_go (sm_ZZ X) sm_PP true (sm_callM X true (d + 22)) 217 46 [vP (23, 0), vI (Int32.ofNat kn.length)] [] σ) (pb (zStats T blk f a) (fun _ a2 => pb (zN (aR (aK a2 kn) (a_r a2 - 1))) (fun _ a3 => .inr (0, a3))))
  | 0, a, σ, hS, hr, hk, hf => by have := PM_len hS.1; omega
  | f + 1, a, σ, hS, hr, hk, hf => by
    have h := hS.1
    have hp := PM_len h
    rw [q_X13_block_46, m_is h (by decide), bI_r, zStats]
    by_cases k : T.1 (a_p a) = 125
    · rw [if_pos k, if_neg (by decide), if_pos k, pb_r]
      have h1 := PM_br (n := a_r a - 1) (PM_kn h hk)
      have e14 : (sI σ 23 0 16 (Int32.ofNat kn.length)).1 23 0 14 - 1 = Int32.ofNat (a_r a - 1) := by
        rw [gI, if_neg (by decide), PM_r h (by omega), hr, i_pred]; rfl
      rw [e14]
      exact mnV (d := d + 20) hT h1 (by show T.1 (a_p a) ≠ 6; rw [k]; decide) (by show T.1 (a_p a) ≠ 7; rw [k]; decide) (fun σ2 _ h2 => ⟨_, rfl, h2⟩)
    · rw [if_neg k, if_pos rfl, if_neg k, pb_pb]
      refine mbVV (m_stat hT hE hE1 hB hD hS hr) (fun _ a1 σ1 e1 h1 => ?_)
      obtain ⟨d1, i1⟩ := D_stat (PT_ty hT) hD hp hS.2.1 e1
      have S1 := SM_D hS.2.2.1 hS.2.2.2.1 hS.2.2.2.2 d1 h1 i1
      have lt1 : a_p a < a_p a1 := S_lt hT hD hp hS.2.1 e1
      exact m_stats hT hE hE1 hB hD hr8 f a1 σ1 S1 (d1.2.2.2.2.2.2.2.2.2.1.trans hr) (hk.trans d1.2.2.2.2.1) (by omega)
/-- BLOCKS, n levels -/
theorem m_B (hT : TK T N) (hE : HM X d mi O T N (zX_ T 11) 0) (hE1 : HM X d mi O T N (zX_ T 10) 1) : ∀ (n r : Nat), r + n = 9 → 1 ≤ n → BM X (d + 23 * n) mi O T N (zBlk T n) r
  | 0, r, h, h1 => by omega
  | n + 1, r, hrn, h1 => by
    intro e a σ hS hr
    obtain ⟨h, hi, hb, hq, hne⟩ := hS
    have e1 : d + 23 * (n + 1) + e = (d + 23 * n + e) + 23 := by omega
    rw [e1, f_X13_block, q_X13_block_0, m_is h (by decide), bI_r, zBlk]
    have key : ∀ y : Int32, (y = 0 ↔ ¬ (T.1 (a_p a) = 123 ∧ a_r a < 8)) → SMV mi O T N (sm_go (sm_ZZ X) sm_PP true (sm_callM X true (d + 23 * n + e + 22)) 217 24 [vP (23, 0), vU] [vI y, vP (23, 0)] σ) (if T.1 (a_p a) = 123 ∧ a_r a < 8 then pb (zN (aR a (a_r a + 1))) (fun _ a1 => pb (zStats T (zBlk T n) 801 a1) (fun _ a2 => pb (zN (aR (aK a2 (a_k a1)) (a_r a2 - 1))) (fun _ a3 => .inr (0, a3)))) else .inl (1, a_p a)) := by
      intro y hy
      rw [q_X13_block_24, if_pos rfl]
      refine mfV (d := d + 23 * n + e + 20) h hy (fun k => ?_)
      have hB : BM X (d + 23 * n + e) mi O T N (zBlk T n) (r + 1) := BM_le (m_B hT hE hE1 n (r + 1) (by omega) (by omega))
      rw [PM_r h (by omega), i_s]
      refine mnV (d := d + 23 * n + e + 20) hT (PM_br h) (by show T.1 (a_p a) ≠ 6; rw [k.1]; decide) (by show T.1 (a_p a) ≠ 7; rw [k.1]; decide) (fun σ1 n1 h1 => ?_)
      rw [h1.2.2.2.1.2.1]
      have r1 : a_r (aP (aR a (a_r a + 1)) (a_p (aR a (a_r a + 1)) + 1)) = r + 1 := by show a_r a + 1 = _; omega
      have S1 : SM mi O T N (aP (aR a (a_r a + 1)) (a_p (aR a (a_r a + 1)) + 1)) σ1 := ⟨h1, hi, by show zL a ≤ a_p a + 1; omega, hq, hne⟩
      exact m_stats hT (HM_le (n := 23 * n + e) hE |> fun x => by rw [← Nat.add_assoc] at x; exact x) (HM_le (n := 23 * n + e) hE1 |> fun x => by rw [← Nat.add_assoc] at x; exact x) hB (D_blk (PT_ty hT) n) (by omega) 801 _ σ1 S1 r1 (List.prefix_refl _) (by omega)
    by_cases k : T.1 (a_p a) = 123
    · rw [if_pos k, if_neg (by decide), PM_r h (by omega)]
      by_cases k8 : a_r a < 8
      · rw [if_pos (show Int32.ofNat (a_r a) < 8 from (i_lt (b := 8) (by omega) (by decide)).mpr k8)]
        exact key 1 ⟨fun z => absurd z (by decide), fun z => absurd ⟨k, k8⟩ z⟩
      · rw [if_neg (fun z : Int32.ofNat (a_r a) < 8 => k8 ((i_lt (b := 8) (by omega) (by decide)).mp z))]
        exact key 0 ⟨fun _ z => k8 z.2, fun _ => rfl⟩
    · rw [if_neg k, if_pos rfl]
      exact key 0 ⟨fun _ z => k z.1, fun _ => rfl⟩
end
