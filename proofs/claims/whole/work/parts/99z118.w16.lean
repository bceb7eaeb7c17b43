section
variable {X : Nat × (Nat → Int32)} {d : Nat} {s σ : sm_S} {mi N : Nat} {O : Nat → Nat → Nat → Int32} {T : zT} {a b : zA} {t : Int32}
theorem Head_Q {y : Int32} (hT : TK T N) (hi : TI a) (hp : a_p a ≤ 800) (hb : a_b a = (a_q a).length) (h : zHead T a = .inr (y, b)) : HQ (a_q a).length b := by
  unfold zHead at h
  rw [pb_inr] at h
  obtain ⟨t1, a1, e1, h⟩ := h
  obtain ⟨k1, n1, e1⟩ := zMust_inr.mp e1
  have E1 : a1 = aP a (a_p a + 1) := congrArg Prod.snd e1
  obtain ⟨i1, i2, i3, i4, i5, i6⟩ := hi
  have TI1 : TI a1 := by rw [E1]; exact ⟨i1, by show zL a ≤ a_p a + 1; omega, i3, i4, i5, by show 9 * (a_c a).length ≤ a_p a + 1; omega⟩
  have hx : zL a1 + 1 ≤ a_p a1 ∧ 9 * (a_c a1).length + 1 ≤ a_p a1 := by rw [E1]; exact ⟨by show zL a + 1 ≤ a_p a + 1; omega, by show 9 * (a_c a).length + 1 ≤ a_p a + 1; omega⟩
  have hp1 : a_p a1 ≤ 800 := by rw [E1]; show a_p a + 1 ≤ 800; omega
  have hb1 : a_b a1 = (a_q a1).length := by rw [E1]; exact hb
  have hl1 : (a_q a1).length = (a_q a).length := by rw [E1]; rfl
  rw [← hl1]
  rw [pb_inr] at h
  obtain ⟨t2, a2, e2, h⟩ := h
  obtain ⟨hi2, -, hp2, -⟩ := PNm_H TI1 hx hp1 e2
  have hq2 : HQ (a_q a1).length (aR (aM (aK a2 []) 0) 0) := by
    unfold zPNm at e2
    rw [it_l] at e2
    obtain ⟨-, e2⟩ := e2
    rw [it_l] at e2
    obtain ⟨-, e2⟩ := e2
    rw [it_r, pb_inr] at e2
    obtain ⟨-, t3, a3, e3, e4⟩ := e2
    obtain ⟨-, e3⟩ := zN_inr.mp e3
    have E3 := congrArg Prod.snd e3
    have E3 : a3 = aP (aQ a1 (a_q a1 ++ [(T.2.1 (a_p a1), 38, [], zL a1)])) (a_p a1 + 1) := E3
    have E4 : a2 = a3 := by cases e4; rfl
    rw [E4, E3]
    exact ⟨hb1, by show (a_q a1 ++ _).length = _; rw [List.length_append]; rfl, (T.2.1 (a_p a1), 38, [], zL a1), by show (a_q a1 ++ _)[(a_q a1).length]? = _; simp, rfl⟩
  rw [pb_inr] at h
  obtain ⟨t3, a3, e3, h⟩ := h
  obtain ⟨k3, n3, e3⟩ := zMust_inr.mp e3
  have E3 : a3 = aP (aR (aM (aK a2 []) 0) 0) (a_p (aR (aM (aK a2 []) 0) 0) + 1) := congrArg Prod.snd e3
  have hp3' : a_p (aR (aM (aK a2 []) 0) 0) ≤ 800 := hp2
  have hp3 : a_p a3 ≤ 800 := by rw [E3]; show a_p (aR (aM (aK a2 []) 0) 0) + 1 ≤ 800; omega
  have hi3 : HI a3 := by rw [E3]; exact HI_P hi2 (by omega)
  have hq3 : HQ (a_q a1).length a3 := by rw [E3]; exact hq2
  rw [pb_inr] at h
  obtain ⟨t4, a4, e4, h⟩ := h
  have h4 : HQ (a_q a1).length a4 ∧ a_p a4 ≤ 800 := by
    by_cases k : T.1 (a_p a3) = 41
    · rw [if_pos k] at e4
      have E4 : a4 = a3 := by cases e4; rfl
      rw [E4]; exact ⟨hq3, hp3⟩
    · rw [if_neg k] at e4
      exact ⟨HQ_pars hT 801 a3 _ a4 hi3 hq3 hp3 e4, (Pars_H hT 801 a3 _ a4 hi3 hp3 e4).2.2⟩
  rw [pb_inr] at h
  obtain ⟨t5, a5, e5, h⟩ := h
  obtain ⟨k5, n5, e5⟩ := zMust_inr.mp e5
  have E5 : a5 = aP a4 (a_p a4 + 1) := congrArg Prod.snd e5
  exact HQ_giv (a := a5) (by rw [E5]; exact h4.1) (by rw [E5]; show a_p a4 + 1 ≤ 800; have := h4.2; omega) h
theorem Proc_Q {y : Int32} (hT : TK T N) (hi : TI a) (hp : a_p a ≤ 800) (hb : a_b a = (a_q a).length) (h : zProc T a = .inr (y, b)) : a_b b = (a_q b).length := by
  unfold zProc at h
  rw [pb_inr] at h
  obtain ⟨t1, a1, e1, h⟩ := h
  have hq := Head_Q hT hi hp hb e1
  obtain ⟨hi1, -, hp1⟩ := Head_H hT hi hp e1
  rw [pb_inr] at h
  obtain ⟨t2, a2, e2, h⟩ := h
  obtain ⟨d2, -, -⟩ := D_blk (PT_ty hT) 9 (aB a1 (a_b a1 + 1)) _ _ (show a_p a1 ≤ 800 from hp1) hi1.1 e2
  have q2 : a_q a2 = a_q a1 := d2.2.2.2.2.2.2.1
  have b2 : a_b a2 = a_b a1 + 1 := d2.2.2.2.2.2.2.2.1
  cases h
  show a_b a2 = (a_q a2).length
  rw [q2, b2, hq.1, hq.2.1]
/-- THE WHOLE TEXT -/
theorem m_text (hT : TK T N) : ∀ (f : Nat) (a : zA) (σ : sm_S), PM mi O T N a σ → TI a → a_b a = (a_q a).length → 801 ≤ f + a_p a →
    SMV mi O T N (sm_go (sm_ZZ X) sm_PP true (sm_callM X true (d + 406)) 208 21 [vP (23, 0)] [] σ) (zText T f a)
  | 0, a, σ, h, hi, hb, hf => by have := PM_len h; omega
  | f + 1, a, σ, h, hi, hb, hf => by
    rw [q_X13_text_21, zText]
    refine mbVV (m_proc (d := d) hT h hi hb) (fun _ a1 σ1 e1 h1 => ?_)
    obtain ⟨hi1, lt1, -⟩ := Proc_T hT hi (PM_len h) e1
    rw [PM_ix h1, PM_kd h1]
    by_cases k : T.1 (a_p a1) = 6
    · rw [if_pos ((mkd_v _).2.2.2.1.mpr k), if_pos k]
      exact ⟨_, rfl, h1⟩
    · rw [if_neg (fun z => k ((mkd_v _).2.2.2.1.mp z)), if_neg k]
      exact m_text hT f a1 σ1 h1 hi1 (Proc_Q hT hi (PM_len h) hb e1) (by omega)
end
