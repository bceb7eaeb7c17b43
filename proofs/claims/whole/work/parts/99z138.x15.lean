section
variable {T : zT} {N : Nat} {a b c a0 : zA} {blk : zA → zR} {t u y : Int32} {P : List Nat}
theorem G_stat (hT : TK T N) (hB : SubBG blk) (hD : SubB tyOk blk) (hs : HSt a) (h : zStat T blk a = .inr (y, b)) : SGr a b := by
  have hs' : HSt (aO a 0) := hs
  unfold zStat zSta at h
  show SGr (aO a 0) b
  split at h
  · exact G_var hT hs' rfl h
  split at h
  · exact G_if hT hB hD hs' rfl h
  split at h
  · exact G_while hT hB hD hs' rfl h
  split at h
  · exact G_try hT hB hD hs' h
  split at h
  · exact G_ret hT hs' rfl h
  split at h
  · exact G_say hT hs' rfl h
  split at h
  · exact G_fail hT hs' rfl h
  · exact G_acts hT hs' rfl h
theorem SGr.trans (h : SGr a b) (k : SGr b c) (hl : zL a ≤ zL b) : SGr a c := by
  refine ⟨fun P hP w => ?_, k.2⟩
  obtain ⟨w1, m1⟩ := h.1 P hP w
  obtain ⟨w2, m2⟩ := k.1 P (fun k hk => Nat.lt_of_lt_of_le (hP k hk) hl) w1
  exact ⟨w2, m1.trans m2⟩
theorem G_stats (hT : TK T N) (hB : SubBG blk) (hD : SubB tyOk blk) : ∀ (f : Nat) (a : zA) (y : Int32) (b : zA), HSt a → zStats T blk f a = .inr (y, b) → SGr a b
  | 0, _, _, _, _, h => by cases h
  | f + 1, a, y, b, hs, h => by
    rw [zStats] at h
    split at h
    · cases h
      exact ⟨fun P _ w => ⟨w, LM.refl _⟩, hs.2.1, hs.2.2.1, hs.2.2.2.1⟩
    · rw [pb_inr] at h
      obtain ⟨_, a1, h1, h⟩ := h
      obtain ⟨d1, i1⟩ := D_stat (PT_ty hT) hD hs.2.2.2.2.2 hs.2.2.2.2.1 h1
      have s1 := G_stat hT hB hD hs h1
      exact s1.trans (G_stats hT hB hD f a1 y b (HSt_D hs s1 d1.2.2.2.2.2.2.1 i1 d1.2.1) h) d1.2.2.2.1.length_le
theorem G_blk (hT : TK T N) : ∀ n, SubBG (zBlk T n)
  | 0 => fun a y b _ h => by cases h
  | n + 1 => fun a y b hs h => by
    have hB := G_blk hT n
    have hD : SubB tyOk (zBlk T n) := D_blk (PT_ty hT) n
    rw [zBlk] at h
    rw [it_l, pb_inr] at h
    obtain ⟨_, _, a1, h1, h⟩ := h
    obtain ⟨n1, e1⟩ := zN_inr.mp h1
    cases e1
    have n1 : a_p a ≠ 800 := n1
    rw [pb_inr] at h
    obtain ⟨_, a2, h2, h⟩ := h
    have hs1 : HSt (aP (aR a (a_r a + 1)) (a_p a + 1)) := HSt_P (a := aR a (a_r a + 1)) hs (by have := hs.2.2.2.2.2; omega)
    obtain ⟨d2, i2, -⟩ := D_stats (PT_ty hT) hD 801 _ _ a2 hs1.2.2.2.2.2 hs1.2.2.2.2.1 h2
    have s2 : SGr (aP (aR a (a_r a + 1)) (a_p a + 1)) a2 := G_stats hT hB hD 801 (aP (aR a (a_r a + 1)) (a_p a + 1)) _ a2 hs1 h2
    have s2 : SGr a a2 := s2
    rw [pb_inr] at h
    obtain ⟨_, a3, h3, h⟩ := h
    obtain ⟨n3, e3⟩ := zN_inr.mp h3
    cases e3
    cases h
    have kp : a_k a <+: a_k a2 := d2.2.2.2.2.1
    have gf : gFits (gNow a2) (gNow (aK a2 (a_k a))) := by
      refine ⟨rfl, fun x hx => ?_, rfl, rfl⟩
      have hx : x ∈ (a_k a).map _ := hx
      exact (kp.map _).subset hx
    have q2 : a_q a2 = a_q a := d2.2.2.2.2.2.2.1
    have h2h : a_h a2 = a_h a := d2.2.2.2.2.2.2.2.2.1
    have g2 : (gNow (aK a2 (a_k a))).2 = (gNow a).2 := gNow_e (b := aK a2 (a_k a)) rfl q2 h2h
    show SGr a (aK a2 (a_k a))
    refine ⟨fun P hP w => ?_, s2.2.1, hs.2.2.1, s2.2.2.2⟩
    obtain ⟨w1, m1⟩ := s2.1 P hP w
    refine ⟨⟨WT_ext w1.1 (Ext_w gf), ?_, ?_⟩, m1.trans (Ext_w (P := []) (l := a_i a2) (ps := []) (ct := []) gf).1⟩
    · refine hOk_w (g := gNow a) (hOk_pre w.2.1 d2.2.2.2.1) (fun x hx => ?_) ?_ ?_
      · rw [g2]; exact hx
      · rw [g2]
      · rw [g2]
    · rw [g2]; exact w.2.2
end
