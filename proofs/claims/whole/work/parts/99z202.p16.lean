section
/-! RUN -/
variable {X : Nat × (Nat → Int32)} {d k : Nat} {As : List sm_V} {o : sm_O} {s t σ σ' τ : sm_S} {B : Nat × Nat} {ci cj mi mj : Nat} {a b c v w y : Int32} {p : zPu} {W' : zW} {o' : Option (Nat → Int32)} {x : zTx} {q : zP}
theorem i_ge {a : Int32} {n : Nat} (hn : n < 2 ^ 31) (h : ¬ Int32.ofNat n < a) (z : ¬ a < 0) : ∃ k, k ≤ n ∧ a = Int32.ofNat k := by
  rw [Int32.lt_iff_toInt_lt] at h z
  have e1 : (Int32.ofNat n).toInt = n := Int32.toInt_ofNat_of_lt hn
  have e0 : (0 : Int32).toInt = 0 := rfl
  refine ⟨a.toInt.toNat, by omega, ?_⟩
  apply Int32.toInt_inj.mp
  rw [Int32.toInt_ofNat_of_lt (by omega)]
  omega
/-- the class's run, where it does not run -/
theorem c_no (h : CRd x ci cj σ) (hn : a < 0 ∨ (¬ a < 0 ∧ ¬ a < Int32.ofNat x.2.2.length) ∨ (v < 0 ∨ (2000 < v))) : sm_callM X true (d + 5) 170 [vP (21, 0), vI a, vI b, vI c, vI v] σ = rI (-1) σ := by
  have h5 := h.2.2.2.2.2.2.1
  have h9 : σ.1 10 cj 9 - 5 = Int32.ofNat x.2.2.length := by rw [h.1.2.1]; exact (i_sub (p := 5))
  rw [f_X11_run, q_X11_run_0]
  by_cases z : a < 0
  · rw [if_pos z]
  · rw [if_neg z, h5, if_pos rfl, f_X0_ownProcs, q_X0_ownProcs_0, bI_r, h9]
    by_cases z1 : a < Int32.ofNat x.2.2.length
    · rw [if_pos z1]
      by_cases z2 : v < 0
      · rw [if_pos z2]
      · rw [if_neg z2, if_pos (by
          rcases hn with q | q | q | q
          · exact absurd q z
          · exact absurd z1 q.2
          · exact absurd q z2
          · exact q)]
    · rw [if_neg z1]
theorem m_no (h : MRd x mi mj σ) (hn : a < 0 ∨ (¬ a < 0 ∧ ¬ a < Int32.ofNat x.2.2.length) ∨ (v < 0 ∨ (2000 < v))) : sm_callM X true (d + 2) 283 [vP (23, 0), vI a, vI b, vI c, vI v] σ = rI (-1) σ := by
  have h6 := h.2.1
  have h0 := h.1.2.1
  have h12 := h.1.2.2.1
  have e282 : (a < 0 ∨ ¬ a < Int32.ofNat x.2.2.length) → sm_callM X true (d + 1) 282 [vP (23, 0), vI a] σ = rI 0 σ := fun hh => by
    rw [f_X13_mayRun, q_X13_mayRun_0]
    by_cases z : a < 0
    · rw [if_pos z]
    · rw [if_neg z, h6, rq_t, h0, if_neg (by
        rcases hh with q | q
        · exact absurd q z
        · exact q)]
  rw [f_X13_run, q_X13_run_0]
  by_cases hh : a < 0 ∨ ¬ a < Int32.ofNat x.2.2.length
  · rw [e282 hh, bI_r, if_pos rfl]
  · have z : ¬ a < 0 := fun q => hh (Or.inl q)
    have z1 : a < Int32.ofNat x.2.2.length := Classical.byContradiction fun q => hh (Or.inr q)
    obtain ⟨k, hk, rfl⟩ := i32_nat (by omega) z z1
    rw [m_may h.1 h6 (List.getElem?_eq_getElem hk), bI_r]
    by_cases hm : mayP x k = true
    · rw [if_pos hm, if_neg (show ¬ (1 : Int32) = 0 by decide)]
      by_cases z2 : v < 0
      · rw [if_pos z2]
      · rw [if_neg z2, if_pos (by
          rcases hn with q | q | q | q
          · exact absurd q z
          · exact absurd z1 q.2
          · exact absurd q z2
          · exact q)]
    · rw [if_neg hm, if_pos rfl]
theorem Q_run : Q8r X 170 283 [vI a, vI b, vI c, vI v] := fun p B ci cj mi mj σ τ h1 h2 h3 => by
  by_cases hn : a < 0 ∨ (¬ a < 0 ∧ ¬ a < Int32.ofNat p.2.2.1.2.2.length) ∨ (v < 0 ∨ (2000 < v))
  · exact ⟨-1, p, ci, cj, mi, mj, h1, ⟨σ, c_no (d := 495) h2.1 hn, h2⟩, τ, m_no (d := 498) h3.1 hn, h3⟩
  · have z : ¬ a < 0 := fun q => hn (Or.inl q)
    have z1 : a < Int32.ofNat p.2.2.1.2.2.length := Classical.byContradiction fun q => hn (Or.inr (Or.inl ⟨z, q⟩))
    have z2 : ¬ v < 0 := fun q => hn (Or.inr (Or.inr (Or.inl q)))
    have z3 : ¬ 2000 < v := fun q => hn (Or.inr (Or.inr (Or.inr q)))
    have h12 := h3.1.1.2.2.1
    obtain ⟨k, hk, rfl⟩ := i32_nat (by omega) z z1
    obtain ⟨fu, hf, rfl⟩ := i_ge (n := 2000) (by decide) z3 z2
    have hp := List.getElem?_eq_getElem hk
    have h5 := h2.1.2.2.2.2.2.2.1
    have h9 : σ.1 10 cj 9 - 5 = Int32.ofNat p.2.2.1.2.2.length := by rw [h2.1.1.2.1]; exact (i_sub (p := 5))
    have t1 := c_takes12 (X := X) (d := 495) h2.1.1 hp
    have t1 : sm_callM X true 499 12 [vP (10, cj), vI (5 + Int32.ofNat k)] σ = rI (if mayP p.2.2.1 k = true then 1 else 0) σ := by
      rw [show (5 : Int32) + Int32.ofNat k = Int32.ofNat (5 + k) from i_add (a := 5)]; exact t1
    have e1 : sm_callM X true 500 170 [vP (21, 0), vI (Int32.ofNat k), vI b, vI c, vI (Int32.ofNat fu)] σ = if mayP p.2.2.1 k = true then sm_bI (sm_callM X true 499 42 [vP (13, 0), vP (10, cj), vI (Int32.ofNat (5 + k)), vI b, vI c, vI (Int32.ofNat fu)] σ) sm_tw (fun y s => rI y s) else rI (-1) σ := by
      rw [f_X11_run, q_X11_run_0, if_neg z, h5, if_pos rfl, f_X0_ownProcs, q_X0_ownProcs_0, bI_r, h9, if_pos z1, if_neg z2, if_neg z3, h5, if_pos rfl, t1, bI_r]
      by_cases hm : mayP p.2.2.1 k = true
      · rw [if_pos hm, if_pos hm, if_neg (show ¬ (1 : Int32) = 0 by decide), h5, show (5 : Int32) + Int32.ofNat k = Int32.ofNat (5 + k) from i_add (a := 5)]
      · rw [if_neg hm, if_neg hm, if_pos rfl]
    by_cases hm : mayP p.2.2.1 k = true
    · obtain ⟨m2, mI⟩ := mayP_s hp hm
      obtain ⟨r, hr, hok⟩ := run_0 (fu := fu) (nm := nm0 b c) h1.2.1 h1.1 hp mI hf
      have hty := (pTy_lt (h1.2.1.2.2.2.2.2.2.2.1 _ (List.mem_of_getElem? hp))).2
      obtain ⟨σ', f1, w1, -, w3⟩ := c_run42 (X := X) (d := 488) h1.2.1 h1.1 h2.2.1 h2.1.1 hp m2 mI hf hty hr
      obtain ⟨τ', f2, u1, -, u3, -⟩ := m_run283 (X := X) (d := 486) h1.2.1 h1.1 h3.2.1 h3.1.1 h3.1.2.1 hp hm hf hr
      have f1 : sm_callM X true 499 42 [vP (13, 0), vP (10, cj), vI (Int32.ofNat (5 + k)), vI b, vI c, vI (Int32.ofNat fu)] σ = rI r.1 σ' := f1
      rw [if_pos hm, f1, bI_r] at e1
      obtain ⟨-, ok2, -, -⟩ := hok
      refine ⟨r.1, (p.1, p.2.1, p.2.2.1, r.2.2.2.1, some (tell (p.2.2.1.2.2[k]'hk).2.1 r), p.2.2.2.2.2), ci, cj, mi, mj, ⟨ok2, h1.2.1, h1.2.2.1, h1.2.2.2⟩, ⟨σ', e1, CI8_r (by decide) e1 h2 w1 w3⟩, τ', f2, MI8_r (by decide) f2 h3 u1 u3⟩
    · rw [if_neg hm] at e1
      refine ⟨-1, p, ci, cj, mi, mj, h1, ⟨σ, e1, h2⟩, τ, ?_, h3⟩
      show sm_callM X true 500 283 [vP (23, 0), vI (Int32.ofNat k), vI b, vI c, vI (Int32.ofNat fu)] τ = rI (-1) τ
      rw [f_X13_run, q_X13_run_0, m_may h3.1.1 h3.1.2.1 hp, bI_r, if_neg hm, if_pos rfl]
end
