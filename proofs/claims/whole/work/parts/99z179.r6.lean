section
/-! THE REFERENCE's MACHINE: a proc is left, entered -/
variable {X : Nat × (Nat → Int32)} {d : Nat} {s σ σ' : sm_S} {W W' : zW} {n i k m j mi b q pc q0 dep bt : Nat} {c t u y nx v wv is bk : Int32} {x : zTx} {K K' : List (Nat × Int32)} {nm : Nat → Int32} {S ops L : List Int32} {H : List Nat} {r F : List zFr} {fu : Nat} {l : List zI} {e : zI} {f : zFr} {p : zP}
theorem trR_dp : ∀ (r : List zFr), ∀ y ∈ trR l r, y.2.1 < r.length
  | [], y, h => by cases h
  | g :: r, y, h => by
    rw [trR] at h
    rw [List.length_cons]
    rcases List.mem_append.mp h with z | z
    · unfold trF at z
      obtain ⟨j, -, rfl⟩ := List.mem_map.mp z
      exact Nat.lt_succ_self _
    · exact Nat.lt_succ_of_lt (trR_dp r y z)
/-- the tries of the proc that is left are taken away -/
theorem m_ret_go {wv is : Int32} (h39 : r.length ≤ 14) : ∀ (H : List Nat) (σ : sm_S), TrM l (trF l H r ++ trR l r) σ → σ.1 23 0 39 = Int32.ofNat r.length → (trF l H r ++ trR l r).length ≤ 150 → ∃ σ', sm_go (sm_ZZ X) sm_PP true (sm_callM X true d) 257 0 [vP (23, 0), vI wv, vI is] [] σ = sm_go (sm_ZZ X) sm_PP true (sm_callM X true d) 257 38 [vP (23, 0), vI wv, vI is] [] σ' ∧ (∀ t i k, ¬ (t = 23 ∧ i = 0 ∧ k = 47) → σ'.1 t i k = σ.1 t i k) ∧ σ'.2 = σ.2 ∧ TrM l (trR l r) σ'
  | [], σ, h, hd, hl => by
    refine ⟨σ, ?_, fun _ _ _ _ => rfl, rfl, h⟩
    have h : TrM l (trR l r) σ := h
    have hl : (trR l r).length ≤ 150 := hl
    obtain ⟨h1, h2⟩ := h
    rw [q_X13_returns_0, h1]
    cases hT : trR l r with
    | nil => rw [if_neg (by rw [List.length_nil]; decide)]
    | cons a T =>
      obtain ⟨j, dp, bt⟩ := a
      rw [hT] at h2 hl
      rw [List.length_cons] at h2 hl
      obtain ⟨-, u2, -, -⟩ := h2 0 j dp bt rfl
      rw [show T.length + 1 - 1 - 0 = T.length by omega] at u2
      have hdp := trR_dp (l := l) r (j, dp, bt) (by rw [hT]; exact List.mem_cons_self)
      have hdp : dp < r.length := hdp
      rw [List.length_cons, if_pos (by rw [show (0 : Int32) = Int32.ofNat 0 from rfl, i_lt (by omega) (by omega)]; omega), i_pred, ix_nat (by omega) (by omega), u2, hd, if_neg (by rw [i_eq (by omega) (by omega)]; omega)]
  | j :: H, σ, h, hd, hl => by
    obtain ⟨h1, h2⟩ := h
    have hll : (trF l (j :: H) r ++ trR l r).length = (trF l H r ++ trR l r).length + 1 := by
      unfold trF; rw [List.length_append, List.length_append, List.length_map, List.length_map, List.length_cons]; omega
    rw [hll] at h1 h2 hl
    obtain ⟨-, u2, -, -⟩ := h2 0 j r.length (hM l r) rfl
    rw [show (trF l H r ++ trR l r).length + 1 - 1 - 0 = (trF l H r ++ trR l r).length by omega] at u2
    obtain ⟨σ', e1, e2, e3, e4⟩ := m_ret_go (wv := wv) (is := is) h39 H (sI σ 23 0 47 (Int32.ofNat (trF l H r ++ trR l r).length)) ⟨by rw [gI, if_pos ⟨rfl, rfl, rfl⟩], fun i j' dp' bt' hi => by
      have hlt := (List.getElem?_eq_some_iff.mp hi).1
      have := h2 (i + 1) j' dp' bt' hi
      rw [show (trF l H r ++ trR l r).length + 1 - 1 - (i + 1) = (trF l H r ++ trR l r).length - 1 - i by omega] at this
      exact this⟩ hd (by omega)
    refine ⟨σ', ?_, fun t i k ht => ?_, e3, e4⟩
    · rw [q_X13_returns_0, h1, if_pos (by rw [show (0 : Int32) = Int32.ofNat 0 from rfl, i_lt (by omega) (by omega)]; omega), i_pred, ix_nat (by omega) (by omega), u2, hd, if_pos rfl]
      exact e1
    · rw [e2 t i k ht, gI, if_neg ht]
/-- a proc is left -/
theorem m_leave (hm : MC x W q0 f r e) (h : MG x mi W K nm L (i_h e) q r nx fu σ) (hw : (i_g e).2.2.1 ≠ 38 → wv = mV (i_g e).2.2.1 v) (hw0 : (i_g e).2.2.1 = 38 → v = 0 ∧ wv = 0) (his : is = 0 ↔ (i_g e).2.2.1 = 38) : ∃ σ', sm_callM X true (d + 2) 257 [vP (23, 0), vI wv, vI is] σ = rV σ' ∧ MO x mi q0 (leaveM W r fu v) σ' := by
  obtain ⟨hx, hW, hF, hi, hl, hb⟩ := id hm
  obtain ⟨-, -, ⟨p, c3, c5⟩, c4⟩ := cur_ok hF hi
  obtain ⟨w, h1, h2, h3, h4, h5, h6, ⟨h7, h8, h9, h10⟩, ⟨a1, a2, a3, a4, a5, a6⟩, h12, h13, h14, h15⟩ := h
  have htl := trR_len hx (f :: r)
  rw [List.length_cons, trR_hd hi] at htl
  have hl' : r.length + 1 ≤ 15 := hl
  have hmv : wv = mV (i_g e).2.2.1 v := by
    by_cases z : (i_g e).2.2.1 = 38
    · obtain ⟨z1, z2⟩ := hw0 z
      rw [z1, z2, mV_0]
    · exact hw z
  obtain ⟨τ, e1, e2, e3, e4⟩ := m_ret_go (X := X) (d := d + 1) (l := x.1) (wv := wv) (is := is) h15 (i_h e) σ h13 h4 (by omega)
  have t39 : τ.1 23 0 39 = Int32.ofNat r.length := (e2 _ _ _ (by omega)).trans h4
  have t85 : τ.1 85 0 r.length = Int32.ofNat (hM x.1 r) := (e2 _ _ _ (by omega)).trans a1
  have w' : MW W τ := MW_i (σ := σ) (fun t i k ht => e2 _ _ _ (by omega)) w
  have x' : MTx x mi τ := MTx_s (σ := σ) (fun t k ht => e2 _ _ _ (by omega)) h1
  have r' : τ.2.2.1 23 0 6 = (22, mi) := by rw [e3]; exact h2
  rw [f_X13_returns, e1, q_X13_returns_38, t39, ix_nat (by omega) (by omega), t85]
  have t39' : (sI τ 23 0 37 (Int32.ofNat (hM x.1 r))).1 23 0 39 = Int32.ofNat r.length := t39
  rw [t39']
  cases r with
  | nil =>
    rw [if_pos (show Int32.ofNat ([] : List zFr).length = 0 from rfl)]
    refine ⟨_, rfl, MW_i (σ := τ) (fun t i k ht => ?_) w', MTx_s (σ := τ) (fun t k ht => ?_) x', r', rfl, rfl, ?_, ?_, ?_, fun p' hp' => ?_⟩
    · rw [gI, if_neg (by omega), gI, if_neg (by omega), gI, if_neg (by omega), gI, if_neg (by omega)]
    · rw [gI, if_neg (by omega), gI, if_neg (by omega), gI, if_neg (by omega), gI, if_neg (by omega)]
    · exact (e2 _ _ _ (by omega)).trans h6
    · show τ.1 23 0 52 = if (0 : Int32) = 6 then v else 0
      rw [if_neg (by decide)]; exact (e2 _ _ _ (by omega)).trans h9
    · exact (e2 _ _ _ (by omega)).trans h10
    · have hb : some f.1 = some q0 := hb
      have hb : f.1 = q0 := Option.some.inj hb
      rw [← hb, c3] at hp'
      cases hp'
      show wv = if (0 : Int32) = 0 then mV p.2.1 v else 0
      rw [if_pos rfl, hmv, c5]
  | cons g r =>
    rw [List.length_cons] at hl' h4 t39 h15 a1 a2 a3 t85 ⊢
    have h37 := hM_ok hx (g :: r) _ c4
    obtain ⟨eg, S, g1, g2, ⟨g3, -⟩, g4, g5, g6, g7⟩ := c4
    obtain ⟨b1, b2⟩ := h12
    rw [gOf_e g1] at b1
    have hsus : susL x.1 g = mOps S g.2.2.2 := by unfold susL; rw [gOf_e g1, g3]; rfl
    have hLg : mOps (i_g eg).1 (v :: g.2.2.2) = if (i_g e).2.2.1 = 38 then susL x.1 g else wv :: susL x.1 g := by
      rw [g3, mOps, hsus, hmv]
    have ttr : trR x.1 (g :: r) = trF x.1 (i_h eg) r ++ trR x.1 r := trR_hd g1
    have t83 : τ.1 83 0 (r.length + 1) = Int32.ofNat (pos vM x.1 g.2.1) := (e2 _ _ _ (by omega)).trans (a3 g r rfl)
    rw [List.length_cons] at h37
    have hhM : hM x.1 (g :: r) = hM x.1 r + (susL x.1 g).length := rfl
    rw [if_neg (by rw [show (0 : Int32) = Int32.ofNat 0 from rfl, i_eq (by omega) (by omega)]; omega), ix_nat (by omega) (by omega)]
    have t83' : (sI τ 23 0 37 (Int32.ofNat (hM x.1 (g :: r)))).1 83 0 (r.length + 1) = Int32.ofNat (pos vM x.1 g.2.1) := t83
    rw [t83']
    have t39'' : (sI (sI τ 23 0 37 (Int32.ofNat (hM x.1 (g :: r)))) 23 0 48 (Int32.ofNat (pos vM x.1 g.2.1))).1 23 0 39 = Int32.ofNat (r.length + 1) := t39
    rw [t39'', i_pred]
    have hg : MG x mi W (i_g eg).2.1 g.2.2.1 (susL x.1 g) (i_h eg) g.1 r (Int32.ofNat (pos vM x.1 g.2.1)) fu (sI (sI (sI τ 23 0 37 (Int32.ofNat (hM x.1 (g :: r)))) 23 0 48 (Int32.ofNat (pos vM x.1 g.2.1))) 23 0 39 (Int32.ofNat r.length)) := by
      refine ⟨MW_i (σ := τ) (fun t i k ht => ?_) w', MTx_s (σ := τ) (fun t k ht => ?_) x', r', rfl, rfl, rfl, (e2 _ _ _ (by omega)).trans h6, ⟨(e2 _ _ _ (by omega)).trans h7, (e2 _ _ _ (by omega)).trans h8, (e2 _ _ _ (by omega)).trans h9, (e2 _ _ _ (by omega)).trans h10⟩, MF1_s (σ := σ) (fun j _ => e2 _ _ _ (by omega)) (fun j _ => e2 _ _ _ (by omega)) (fun j _ => ⟨e2 _ _ _ (by omega), e2 _ _ _ (by omega), e2 _ _ _ (by omega)⟩) b1, MF_s (σ := σ) r (fun j _ => e2 _ _ _ (by omega)) (fun j _ => e2 _ _ _ (by omega)) (fun j _ => ⟨e2 _ _ _ (by omega), e2 _ _ _ (by omega), e2 _ _ _ (by omega)⟩) b2, ?_, by omega, by omega⟩
      · rw [gI, if_neg (by omega), gI, if_neg (by omega), gI, if_neg (by omega)]
      · rw [gI, if_neg (by omega), gI, if_neg (by omega), gI, if_neg (by omega)]
      · rw [← ttr]
        exact TrM_s (σ := τ) rfl (fun t j q1 q2 _ => by rw [gI, if_neg (by omega), gI, if_neg (by omega), gI, if_neg (by omega)]) e4
    have fin : ∀ (L' : List Int32) (τ' : sm_S), L' = mOps (i_g eg).1 (v :: g.2.2.2) → MG x mi W (i_g eg).2.1 g.2.2.1 L' (i_h eg) g.1 r (Int32.ofNat (pos vM x.1 g.2.1)) fu τ' → MO x mi q0 (leaveM W (g :: r) fu v) τ' := fun L' τ' hL hG => by
      subst hL
      exact ⟨(g.1, g.2.1, g.2.2.1, v :: g.2.2.2), r, eg, rfl, g1, hG⟩
    by_cases z : (i_g e).2.2.1 = 38
    · rw [if_pos (his.mpr z)]
      exact ⟨_, rfl, fin _ _ (by rw [hLg, if_pos z]) hg⟩
    · obtain ⟨σ1, f1, f2⟩ := m_push (X := X) (d := d) (c := wv) hg (by omega)
      rw [if_neg (fun y => z (his.mp y)), f1, bV_r]
      exact ⟨σ1, rfl, fin _ _ (by rw [hLg, if_neg z]) f2⟩
/-- the arguments are the first names -/
theorem m_enter_go {qv bk : Int32} (hb : bt + n ≤ 3000) (hd : 24 * dep + n ≤ 360) : ∀ (m i : Nat) (σ : sm_S), i + m = n → σ.1 23 0 37 = Int32.ofNat bt → σ.1 23 0 39 = Int32.ofNat dep → ∃ σ', sm_go (sm_ZZ X) sm_PP true (sm_callM X true d) 258 23 [vP (23, 0), vI qv, vI bk, vI (Int32.ofNat n), vI (Int32.ofNat i)] [] σ = sm_go (sm_ZZ X) sm_PP true (sm_callM X true d) 258 23 [vP (23, 0), vI qv, vI bk, vI (Int32.ofNat n), vI (Int32.ofNat n)] [] σ' ∧ (∀ t a j, ¬ (t = 82 ∧ a = 0 ∧ 24 * dep + i ≤ j) → σ'.1 t a j = σ.1 t a j) ∧ σ'.2 = σ.2 ∧ ∀ j, i ≤ j → j < n → σ'.1 82 0 (24 * dep + j) = σ.1 81 0 (bt + j)
  | 0, i, σ, hi, h37, h39 => by
    refine ⟨σ, by rw [show i = n by omega], fun _ _ _ _ => rfl, rfl, fun j h1 h2 => by omega⟩
  | m + 1, i, σ, hi, h37, h39 => by
    have e24 : (24 : Int32) * Int32.ofNat dep + Int32.ofNat i = Int32.ofNat (24 * dep + i) := by
      rw [show (24 : Int32) = Int32.ofNat 24 from rfl, ← Int32.ofNat_mul, ← Int32.ofNat_add]
    obtain ⟨σ', e1, e2, e3, e4⟩ := m_enter_go (qv := qv) (bk := bk) hb hd m (i + 1) (sI σ 82 0 (24 * dep + i) (σ.1 81 0 (bt + i))) (by omega) h37 h39
    refine ⟨σ', ?_, fun t a j ht => ?_, e3, fun j h1 h2 => ?_⟩
    · rw [q_X13_enters_23, if_pos (by rw [i_lt (by omega) (by omega)]; omega), h37, i_add, ix_nat (by omega) (by omega), h39, e24, ix_nat (by omega) (by omega), i_s]
      exact e1
    · rw [e2 t a j (by omega), gI, if_neg (by omega)]
    · by_cases z : j = i
      · subst z
        rw [e2 _ _ _ (by omega), gI, if_pos ⟨rfl, rfl, rfl⟩]
      · rw [e4 j (by omega) h2, gI, if_neg (by omega)]
theorem m_enter (h1 : MTx x mi σ) (h2 : σ.2.2.1 23 0 6 = (22, mi)) (hp : x.2.2[k]? = some p) (hlen : x.1.length ≤ 800) (h39 : σ.1 23 0 39 = Int32.ofNat dep) (hd : dep < 15) (h37 : σ.1 23 0 37 = Int32.ofNat (p.2.2.1.length + bt)) (hb : bt ≤ 2000) : ∃ σ', sm_callM X true (d + 1) 258 [vP (23, 0), vI (Int32.ofNat k), vI bk] σ = rV σ' ∧ (∀ t a j, t ≠ 82 → t ≠ 83 → t ≠ 84 → t ≠ 85 → ¬ (t = 23 ∧ (j = 37 ∨ j = 48)) → σ'.1 t a j = σ.1 t a j) ∧ σ'.2 = σ.2 ∧ σ'.1 23 0 37 = Int32.ofNat bt ∧ σ'.1 23 0 48 = Int32.ofNat (pos vM x.1 p.2.2.2) ∧ (∀ j, j ≠ dep → σ'.1 83 0 j = σ.1 83 0 j ∧ σ'.1 84 0 j = σ.1 84 0 j ∧ σ'.1 85 0 j = σ.1 85 0 j) ∧ σ'.1 83 0 dep = bk ∧ σ'.1 84 0 dep = Int32.ofNat k ∧ σ'.1 85 0 dep = Int32.ofNat bt ∧ (∀ j, j < 24 * dep → σ'.1 82 0 j = σ.1 82 0 j) ∧ ∀ j, j < p.2.2.1.length → σ'.1 82 0 (24 * dep + j) = σ.1 81 0 (bt + j) := by
  obtain ⟨-, p12, hq⟩ := h1.2
  obtain ⟨q1, q2, q3, q4, q5, q6⟩ := hq k p hp
  have hk := (List.getElem?_eq_some_iff.mp hp).1
  have e60 : σ.1 60 mi k = Int32.ofNat p.2.2.1.length := q4
  have s37 : Int32.ofNat (p.2.2.1.length + bt) - Int32.ofNat p.2.2.1.length = Int32.ofNat bt := i_sub
  rw [f_X13_enters, q_X13_enters_0, h2, rq_t, ix_nat (by omega) (by omega), e60, h37, s37]
  obtain ⟨τ, e1, e2, e3, e4⟩ := m_enter_go (X := X) (d := d) (qv := Int32.ofNat k) (bk := bk) (n := p.2.2.1.length) (bt := bt) (dep := dep) (by omega) (by omega) p.2.2.1.length 0 (sI σ 23 0 37 (Int32.ofNat bt)) (by omega) rfl h39
  have e1 : sm_go (sm_ZZ X) sm_PP true (sm_callM X true d) 258 23 [vP (23, 0), vI (Int32.ofNat k), vI bk, vI (Int32.ofNat p.2.2.1.length), vI 0] [] (sI σ 23 0 37 (Int32.ofNat bt)) = _ := e1
  have t39 : τ.1 23 0 39 = Int32.ofNat dep := (e2 _ _ _ (by omega)).trans h39
  have t37 : τ.1 23 0 37 = Int32.ofNat bt := (e2 _ _ _ (by omega)).trans (by rw [gI, if_pos ⟨rfl, rfl, rfl⟩])
  have tr : τ.2.2.1 23 0 6 = (22, mi) := by rw [e3]; exact h2
  have t62 : τ.1 62 mi k = Int32.ofNat (pos vM x.1 p.2.2.2) := (e2 _ _ _ (by omega)).trans q2
  rw [e1, q_X13_enters_23, if_neg (by rw [i_lt (by omega) (by omega)]; omega), t39, ix_nat (by omega) (by omega)]
  have u39 : (sI τ 84 0 dep (Int32.ofNat k)).1 23 0 39 = Int32.ofNat dep := t39
  rw [u39, ix_nat (by omega) (by omega)]
  have v39 : (sI (sI τ 84 0 dep (Int32.ofNat k)) 83 0 dep bk).1 23 0 39 = Int32.ofNat dep := t39
  have v37 : (sI (sI τ 84 0 dep (Int32.ofNat k)) 83 0 dep bk).1 23 0 37 = Int32.ofNat bt := t37
  rw [v39, ix_nat (by omega) (by omega), v37]
  have w6 : (sI (sI (sI τ 84 0 dep (Int32.ofNat k)) 83 0 dep bk) 85 0 dep (Int32.ofNat bt)).2.2.1 23 0 6 = (22, mi) := tr
  have w62 : (sI (sI (sI τ 84 0 dep (Int32.ofNat k)) 83 0 dep bk) 85 0 dep (Int32.ofNat bt)).1 62 mi k = Int32.ofNat (pos vM x.1 p.2.2.2) := t62
  rw [w6, rq_t, ix_nat (by omega) (by omega), w62]
  refine ⟨_, rfl, fun t a j y1 y2 y3 y4 y5 => ?_, e3, ?_, ?_, fun j hj => ⟨?_, ?_, ?_⟩, ?_, ?_, ?_, fun j hj => ?_, fun j hj => ?_⟩
  · rw [gI, if_neg (by omega), gI, if_neg (by omega), gI, if_neg (by omega), gI, if_neg (by omega), e2 t a j (by omega), gI, if_neg (by omega)]
  · rw [gI, if_neg (by omega)]; exact t37
  · rw [gI, if_pos ⟨rfl, rfl, rfl⟩]
  · rw [gI, if_neg (by omega), gI, if_neg (by omega), gI, if_neg (by omega), gI, if_neg (by omega)]; exact e2 _ _ _ (by omega)
  · rw [gI, if_neg (by omega), gI, if_neg (by omega), gI, if_neg (by omega), gI, if_neg (by omega)]; exact e2 _ _ _ (by omega)
  · rw [gI, if_neg (by omega), gI, if_neg (by omega), gI, if_neg (by omega), gI, if_neg (by omega)]; exact e2 _ _ _ (by omega)
  · rw [gI, if_neg (by omega), gI, if_neg (by omega), gI, if_pos ⟨rfl, rfl, rfl⟩]
  · rw [gI, if_neg (by omega), gI, if_neg (by omega), gI, if_neg (by omega), gI, if_pos ⟨rfl, rfl, rfl⟩]
  · rw [gI, if_neg (by omega), gI, if_pos ⟨rfl, rfl, rfl⟩]
  · rw [gI, if_neg (by omega), gI, if_neg (by omega), gI, if_neg (by omega), gI, if_neg (by omega)]; exact e2 _ _ _ (by omega)
  · rw [gI, if_neg (by omega), gI, if_neg (by omega), gI, if_neg (by omega), gI, if_neg (by omega)]; exact e4 j (Nat.zero_le _) hj
end
