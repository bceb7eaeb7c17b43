section
/-! A TEXT IN THE REFERENCE -/
variable {X : Nat × (Nat → Int32)} {d : Nat} {s σ : sm_S} {mi N : Nat} {O : Nat → Nat → Nat → Int32} {T : zT} {a b : zA} {t : Int32}
theorem zN_fl {k : Int32 → zA → zR} {g : zA → zA} (h1 : ∀ a, a_p (g a) = a_p a) (h2 : ∀ a p, aP (g a) p = g (aP a p)) : pb (zN (g a)) k = pb (zN a) (fun y a2 => k y (g a2)) := by
  unfold zN
  rw [h1]
  by_cases q : a_p a = 800
  · rw [if_pos q, if_pos q]; rfl
  · rw [if_neg q, if_neg q, h2]; rfl
/-- the parameters -/
theorem m_pars (hT : TK T N) : ∀ (f : Nat) (a : zA) (σ : sm_S) (v2 : sm_V), PM mi O T N a σ → HI a → 801 ≤ f + a_p a →
    SMV mi O T N (sm_go (sm_ZZ X) sm_PP true (sm_callM X true (d + 5)) 212 2 [vP (23, 0), vI 1, v2] [] σ) (zPars T f a)
  | 0, a, σ, v2, h, hi, hf => by have := PM_len h; omega
  | f + 1, a, σ, v2, h, hi, hf => by
    rw [q_X13_params_2, if_neg (by decide), zPars]
    have hZ : ∀ (y : Int32) (b : zA), zPar1 T a = .inr (y, b) → HI b ∧ a_p a < a_p b ∧ a_p b ≤ 800 := fun y b e => Par1_H hT hi (PM_len h) e
    revert hZ
    unfold zPar1
    rw [pb_pb]
    intro hZ
    refine mbIV (m_type (d := d + 1) hT h) (fun u a1 σ1 e1 h1 => ?_)
    obtain ⟨d1, p1, E1⟩ := D_ty (PM_len h) e1
    have hi1 : HI a1 := by rw [E1]; exact HI_P hi (by have := d1.1; rw [E1] at this; have : a_p a + 1 ≤ p1 := this; omega)
    obtain ⟨g1, g2, g3, g4, g5, g6, g7, g8, g9, g10⟩ := hi1
    obtain ⟨e, he⟩ := last_some g3
    have np := nPar_e he
    have np' : (((a_q a1).getLast?.map (fun q => q.2.2.1.length)).getD 0) = e.2.2.1.length := np
    have hl : 0 < (a_q a1).length := List.length_pos_iff.mpr g3
    rw [e1] at hZ
    simp only [pb_r] at hZ
    rw [PM_ix h1, PM_kd h1]
    have key : ∀ y : Int32, (y = 0 ↔ ¬ T.1 (a_p a1) = 3) → SMV mi O T N (sm_go (sm_ZZ X) sm_PP true (sm_callM X true (d + 5)) 212 30 [vP (23, 0), vI 1, vI u] [vI y, vP (23, 0)] σ1) (pb (if T.1 (a_p a1) = 3 then (match kFind (T.2.1 (a_p a1)) (a_k a1) with
      | some _ => .inl (3, a_p a1)
      | none => if (((a_q a1).getLast?.map (fun q => q.2.2.1.length)).getD 0) = 4 then .inl (5, a_p a1) else
        pb (zN (zKnow (T.2.1 (a_p a1)) u (qLast a1 (fun q => (q.1, q.2.1, q.2.2.1 ++ [u], q.2.2.2))))) (fun _ a2 => .inr (0, a2)))
      else .inl (1, a_p a1)) (fun _ a2 => if T.1 (a_p a2) = 44 then pb (zN a2) (fun _ a3 => zPars T f a3) else .inr (0, a2))) := by
      intro y hy
      rw [q_X13_params_30, if_pos rfl]
      have e0 : ∀ (r : zR) (k : Int32 → zA → zR), pb (if T.1 (a_p a1) = 3 then r else .inl (1, a_p a1)) k = if T.1 (a_p a1) = 3 then pb r k else .inl (1, a_p a1) := by
        intro r k
        by_cases z : T.1 (a_p a1) = 3
        · rw [if_pos z, if_pos z]
        · rw [if_neg z, if_neg z]; rfl
      rw [e0]
      refine mfV (d := d + 3) h1 hy (fun k3 => ?_)
      have hn := hT.2.2.2.1 _ k3
      have hp1 := h1.1.2.1
      have hp18 := PM_len h1
      rw [PM_ix h1, PM_nm h1 k3]
      rcases m_variable (X := X) (d := d + 4) hn h1 with ⟨j, w, j24, v1, v2', v3⟩ | ⟨v1, v2'⟩
      · rw [v3, bI_r, if_neg (i_m1 j (by omega)), v2', PM_at h1]
        exact mThV (d := d + 4) h1 hp1 (by omega)
      · rw [v2', bI_r, if_pos rfl, v1]
        rw [if_pos k3, v1] at hZ
        obtain ⟨b1, b2, b3, b4, b5, b6, b7, b8⟩ := h1.2.2.1.2.2.2 _ e he
        have l12 : (a_q a1).length - 1 < 12 := by omega
        rw [PM_cd h1, rq_t, h1.2.2.1.2.2.1 g3, ix_nat l12 (by decide), b6]
        show SMV mi O T N _ (pb (if (((a_q a1).getLast?.map (fun q => q.2.2.1.length)).getD 0) = 4 then _ else _) _)
        by_cases q4 : e.2.2.1.length = 4
        · rw [if_pos (by rw [q4]; rfl), if_pos (np'.trans q4), PM_at h1]
          exact mThV (d := d + 4) h1 hp1 (by omega)
        · rw [if_neg (fun z : Int32.ofNat e.2.2.1.length = 4 => q4 ((i_eq (b := 4) (by omega) (by decide)).mp z)), if_neg (fun z => q4 (np'.symm.trans z))]
          simp only [] at hZ
          rw [if_neg (fun z => q4 (np'.symm.trans z))] at hZ
          have hPar := PM_par (t := u) h1 he (by omega)
          rw [rq_t, rq_t, ix_nat l12 (by decide), b6, show (4 : Int32) = Int32.ofNat 4 from rfl, i_mul, i_add, ix_nat (by omega) (by decide)]
          rw [show (sI σ1 61 mi (4 * ((a_q a1).length - 1) + e.2.2.1.length) u).2.2.1 23 0 7 = (22, mi) from (show σ1.2.2.1 23 0 7 = (22, mi) from PM_cd h1), rq_t]
          have e12 : (sI σ1 61 mi (4 * ((a_q a1).length - 1) + e.2.2.1.length) u).1 23 0 12 = Int32.ofNat ((a_q a1).length - 1) := h1.2.2.1.2.2.1 g3
          have e60 : (sI σ1 61 mi (4 * ((a_q a1).length - 1) + e.2.2.1.length) u).1 60 mi ((a_q a1).length - 1) = Int32.ofNat e.2.2.1.length := by rw [gI, if_neg (by omega)]; exact b6
          rw [e12, ix_nat l12 (by decide), ix_nat l12 (by decide), e60, i_s]
          have pQ : a_p (qLast a1 (fun q => (q.1, q.2.1, q.2.2.1 ++ [u], q.2.2.2))) = a_p a1 := rfl
          have mQ : a_m (qLast a1 (fun q => (q.1, q.2.1, q.2.2.1 ++ [u], q.2.2.2))) = a_m a1 := rfl
          have k3' : T.1 (a_p (qLast a1 (fun q => (q.1, q.2.1, q.2.2.1 ++ [u], q.2.2.2)))) = 3 := k3
          have nmQ : T.2.1 (a_p (qLast a1 (fun q => (q.1, q.2.1, q.2.2.1 ++ [u], q.2.2.2)))) = T.2.1 (a_p a1) := rfl
          generalize qLast a1 (fun q => (q.1, q.2.1, q.2.2.1 ++ [u], q.2.2.2)) = aQ1 at *
          rw [PM_ix hPar, PM_nm hPar k3', nmQ, pb_pb]
          obtain ⟨σ3, e3, h3⟩ := m_knows (X := X) (d := d + 4) (t := u) hn hPar (by omega)
          have e3 : sm_callM X true (d + 5) 214 [vP (23, 0), vL (pk8 (T.2.1 (a_p a1)) 0), vI u] _ = rV σ3 := e3
          rw [e3, bV_r]
          have kp : T.1 (a_p (zKnow (T.2.1 (a_p a1)) u aQ1)) = 3 := k3'
          refine mnV (d := d + 3) hT h3 (by rw [kp]; decide) (by rw [kp]; decide) (fun σ4 n4 h4 => ?_)
          have hZ4 := hZ 0 (aP (zKnow (T.2.1 (a_p a1)) u aQ1) (a_p (zKnow (T.2.1 (a_p a1)) u aQ1) + 1)) (by unfold zN; rw [if_neg n4]; rfl)
          generalize aP (zKnow (T.2.1 (a_p a1)) u aQ1) (a_p (zKnow (T.2.1 (a_p a1)) u aQ1) + 1) = a4 at *
          rw [pb_r, m_is h4 (by decide), bI_r]
          by_cases k44 : T.1 (a_p a4) = 44
          · rw [if_pos k44, if_neg (by decide), if_pos k44]
            refine mnV (d := d + 3) hT h4 (by rw [k44]; decide) (by rw [k44]; decide) (fun σ5 n5 h5 => ?_)
            exact m_pars hT f _ σ5 _ h5 (HI_P hZ4.1 (by omega)) (by show 801 ≤ f + (a_p a4 + 1); omega)
          · rw [if_neg k44, if_pos rfl, if_neg k44, q_X13_params_2, if_pos rfl]
            exact ⟨_, rfl, h4⟩
    by_cases q : T.1 (a_p a1) = 3
    · rw [if_pos ((mkd_v _).1.mpr q)]
      exact key 1 ⟨fun z => absurd z (by decide), fun z => absurd q z⟩
    · rw [if_neg (fun z => q ((mkd_v _).1.mp z))]
      exact key 0 ⟨fun _ => q, fun _ => rfl⟩
end
