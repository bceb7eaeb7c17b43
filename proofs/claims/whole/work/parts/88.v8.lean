section
/-! THE CLASS WRITES CODE -/
variable {X : Nat × (Nat → Int32)} {d : Nat} {s σ : sm_S} {ci N : Nat} {O : Nat → Nat → Nat → Int32} {T : zT} {a b : zA}
theorem PQ_app {l m : List zI} {ps : List zP} (q : PQ l ps ci σ) : PQ (l ++ m) ps ci σ := by
  obtain ⟨a1, a2, a3, a4⟩ := q
  refine ⟨a1, a2, a3, fun j q hj => ?_⟩
  obtain ⟨b1, b2, b3, b4, b⟩ := a4 j q hj
  exact ⟨b1, b2, by rw [List.length_append]; omega, by rw [pos_app b3]; exact b4, b⟩
theorem PQ_mod {l : List zI} {ps : List zP} {k : Nat} {f : zI → zI} (hf : ∀ e, (f e).1 = e.1) (q : PQ l ps ci σ) : PQ (l.modify k f) ps ci σ := by
  obtain ⟨a1, a2, a3, a4⟩ := q
  refine ⟨a1, a2, a3, fun j q hj => ?_⟩
  obtain ⟨b1, b2, b3, b4, b⟩ := a4 j q hj
  exact ⟨b1, b2, by rw [List.length_modify]; exact b3, by rw [pos_mod hf]; exact b4, b⟩
theorem CI_code (h : CI ci O σ) : σ.2.2.1 15 0 3 = (10, ci) := h.2.2.2.2.2.2.2
theorem rI_inj {x y : Int32} {s t : sm_S} (h : rI x s = rI y t) : x = y ∧ s = t := by cases h; exact ⟨rfl, rfl⟩
theorem rV_inj {s t : sm_S} (h : rV s = rV t) : s = t := by cases h; rfl
theorem emS_PT {p n : Nat} {o g pl : Int32} (h : PT T N p σ) : PT T N p (emS σ ci n o g pl) := by
  unfold emS
  exact PT_o (PT_o (PT_o (PT_o (PT_o h (by omega) (by omega) (by omega) (by omega)) (by omega) (by omega) (by omega) (by omega)) (by omega) (by omega) (by omega) (by omega)) (by omega) (by omega) (by omega) (by omega)) (by omega) (by omega) (by omega) (by omega)
theorem emS_PQ {l : List zI} {ps : List zP} {n : Nat} {o g pl : Int32} (h : PQ l ps ci σ) : PQ l ps ci (emS σ ci n o g pl) := by
  unfold emS
  exact PQ_o (PQ_o (PQ_o (PQ_o (PQ_o h (by omega) (by omega) (by omega) (by omega) (by omega)) (by omega) (by omega) (by omega) (by omega) (by omega)) (by omega) (by omega) (by omega) (by omega) (by omega)) (by omega) (by omega) (by omega) (by omega) (by omega)) (by omega) (by omega) (by omega) (by omega) (by omega)
theorem emS_PN {kn : List (List Int32 × Int32 × Nat)} {m n : Nat} {x : Option (List Int32 × Int32)} {o g pl : Int32} (h : PN kn m x σ) : PN kn m x (emS σ ci n o g pl) := by
  unfold emS
  exact PN_o (PN_o (PN_o (PN_o (PN_o h (by omega) (by omega) (by omega)) (by omega) (by omega) (by omega)) (by omega) (by omega) (by omega)) (by omega) (by omega) (by omega)) (by omega) (by omega) (by omega)
theorem emS_p {n : Nat} {o g pl : Int32} : (emS σ ci n o g pl).1 15 0 4 = σ.1 15 0 4 := by
  unfold emS
  rw [gI, if_neg (by omega), gI, if_neg (by omega), gI, if_neg (by omega), gI, if_neg (by omega), gI, if_neg (by omega)]
theorem emS_s {n : Nat} {o g pl : Int32} : (emS σ ci n o g pl).1 15 0 10 = σ.1 15 0 10 := by
  unfold emS
  rw [gI, if_neg (by omega), gI, if_neg (by omega), gI, if_neg (by omega), gI, if_neg (by omega), gI, if_neg (by omega)]
/-- one more item -/
theorem c_em {op : Nat} {arg ty pl o g : Int32} {tgt : Nat} (h : PC ci O T N a σ) (hw : wN a = 0) (hl : zL a < 900) (hv : vC op = true) (h33 : ¬ op = 33) (ht : tgt ≤ zL a) (ho : o = Int32.ofNat (cOp op)) (hg : g = cArg (a_i a) (op, arg, tgt, pl, ty, gNow a)) :
    ∃ σ', sm_callM X true (d + 1) 13 [vP (10, ci), vI o, vI g, vI pl] σ = rI (Int32.ofNat (pos vC (a_i a) (zL a))) σ' ∧ PC ci O T N (zE a op arg tgt ty pl) σ' ∧ σ'.1 15 0 10 = σ.1 15 0 10 := by
  obtain ⟨hp, h1, h2, h3, h4, h5⟩ := h
  rw [zIW_0 hw] at h1 h2
  have hn : pos vC (a_i a) (zL a) < 900 := Nat.lt_of_le_of_lt pos_le hl
  have e1 := c_emit (X := X) (d := d) o g pl hn h1.1
  refine ⟨_, e1, ⟨emS_PT hp, ?_⟩, emS_s⟩
  have hw' : wN (zE a op arg tgt ty pl) = 0 := hw
  unfold PR
  rw [zIW_0 hw']
  refine ⟨CV_emit (e := (op, arg, tgt, pl, ty, gNow a)) h1 hv h33 ht rfl ho hg rfl, PQ_app (emS_PQ h2), emS_PN h3, ?_, fun q => by rw [emS_p]; exact h5 q⟩
  obtain ⟨y, σ', e2, c2, -⟩ := ci_emit (X := X) (d := d) o g pl h4
  rw [e1] at e2
  rw [(rI_inj e2).2]; exact c2
/-- as methods of the reader call it -/
theorem if_cd {A B : sm_R} (h : CI ci O σ) : (if (σ.2.2.1 15 0 3).1 = 10 then A else B) = A := if_pos (by rw [CI_code h])
/-- what was written last is taken back, and waits no more -/
theorem c_take (h : PC ci O T N a σ) (hw : wN a = 1) (hk : okL (a_i a) (a_c a) (a_h a)) (hl : zL a < 900) (hq : ∀ q ∈ a_q a, q.2.2.2 ≤ zL a) : ∃ σ', sm_callM X true (d + 1) 14 [vP (10, ci)] σ = rI (a_w a).2.1 σ' ∧ PC ci O T N (aW a (0, 0, 0, 0)) σ' ∧ σ'.1 15 0 10 = σ.1 15 0 10 := by
  obtain ⟨hp, h1, h2, h3, h4, h5⟩ := h
  have hc : (a_w a).1 = 5 ∨ (a_w a).1 = 15 ∨ (a_w a).1 = 17 := by
    unfold wN at hw
    by_cases q : (a_w a).1 = 5 ∨ (a_w a).1 = 15 ∨ (a_w a).1 = 17
    · exact q
    · rw [if_neg q] at hw; cases hw
  have e0 : zIW a = a_i a ++ [((a_w a).1, (a_w a).2.1, 0, (a_w a).2.2.1, (a_w a).2.2.2, gNow a)] := by unfold zIW; rw [if_pos hc]
  rw [e0] at h1 h2
  have hv : vC (a_w a).1 = true := by rcases hc with z | z | z <;> rw [z] <;> rfl
  have h33 : ¬ (a_w a).1 = 33 := by omega
  have hsz := h1.1
  have hL : pos vC (a_i a ++ [((a_w a).1, (a_w a).2.1, 0, (a_w a).2.2.1, (a_w a).2.2.2, gNow a)]) (a_i a ++ [((a_w a).1, (a_w a).2.1, 0, (a_w a).2.2.1, (a_w a).2.2.2, gNow a)]).length = pos vC (a_i a) (a_i a).length + 1 := by rw [pos_L, if_pos hv]
  rw [hL] at hsz
  have hn : pos vC (a_i a) (a_i a).length < 900 := Nat.lt_of_le_of_lt pos_le hl
  have hit := h1.2.1 (a_i a).length ((a_w a).1, (a_w a).2.1, 0, (a_w a).2.2.1, (a_w a).2.2.2, gNow a) (by simp) hv
  rw [pos_app (Nat.le_refl _)] at hit
  have harg : σ.1 31 ci (pos vC (a_i a) (a_i a).length) = (a_w a).2.1 := by
    rw [hit.2.1]; unfold cArg; rw [if_neg (by show ¬ ((a_w a).1 = 0 ∨ (a_w a).1 = 26); omega)]
  have e1 : sm_callM X true (d + 1) 14 [vP (10, ci)] σ = rI (a_w a).2.1 (sI σ 10 ci 11 (Int32.ofNat (pos vC (a_i a) (a_i a).length))) := by
    rw [f_X0_takeBack, q_X0_takeBack_0, hsz, if_pos (by rw [show (0 : Int32) = Int32.ofNat 0 from rfl, i_lt (by omega) (by omega)]; omega), i_pred, gI, if_pos ⟨rfl, rfl, rfl⟩, ix_nat hn (by decide), gI, if_neg (by omega), harg]
  refine ⟨_, e1, ⟨PT_o hp (by omega) (by omega) (by omega) (by omega), ?_⟩, by rw [gI, if_neg (by omega)]⟩
  have hw' : wN (aW a (0, 0, 0, 0)) = 0 := rfl
  unfold PR
  rw [zIW_0 hw']
  refine ⟨CV_take h1 hv h33 hk, PQ_o ?_ (by omega) (by omega) (by omega) (by omega) (by omega), PN_o h3 (by omega) (by omega) (by omega), ?_, fun q => by rw [gI, if_neg (by omega)]; exact h5 q⟩
  · obtain ⟨a1, a2, a3, a4⟩ := h2
    refine ⟨a1, a2, a3, fun j q hj => ?_⟩
    obtain ⟨b1, b2, b3, b4, b⟩ := a4 j q hj
    have hb := hq q (List.mem_of_getElem? hj)
    exact ⟨b1, b2, hb, by rw [pos_app hb] at b4; exact b4, b⟩
  · obtain ⟨y, σ', e2, c2, -⟩ := ci_takeBack (X := X) (d := d) h4
    rw [e1] at e2
    rw [(rI_inj e2).2]; exact c2
/-- a jump is aimed -/
theorem c_aim {k : Nat} {e : zI} (h : PC ci O T N a σ) (hw : wN a = 0) (hl : zL a < 900) (hk : (a_i a)[k]? = some e) (he : e.1 = 0 ∨ e.1 = 26) : ∃ σ', sm_callM X true (d + 2) 15 [vP (10, ci), vI (Int32.ofNat (pos vC (a_i a) k))] σ = rV σ' ∧ PC ci O T N (zX a k (zL a)) σ' := by
  obtain ⟨hp, h1, h2, h3, h4, h5⟩ := h
  rw [zIW_0 hw] at h1 h2
  have hn : pos vC (a_i a) (a_i a).length < 900 := Nat.lt_of_le_of_lt pos_le hl
  have hve : vC e.1 = true := by rcases he with z | z <;> rw [z] <;> rfl
  have hlt : pos vC (a_i a) k < pos vC (a_i a) (a_i a).length := pos_lt hk hve (List.getElem?_eq_some_iff.mp hk).1
  have e1 : sm_callM X true (d + 2) 15 [vP (10, ci), vI (Int32.ofNat (pos vC (a_i a) k))] σ = rV (sI σ 31 ci (pos vC (a_i a) k) (Int32.ofNat (pos vC (a_i a) (a_i a).length))) := by
    rw [f_X0_aimHere, q_X0_aimHere_0, c_isInstr _ h1.1 (by omega), bI_r, if_neg (i_nn (by omega)), if_pos ((i_lt (by omega) (by omega)).mpr hlt), if_neg (by decide), ix_nat (by omega) (by decide), h1.1]
  refine ⟨_, e1, PT_o hp (by omega) (by omega) (by omega) (by omega), ?_⟩
  have hw' : wN (zX a k (zL a)) = 0 := hw
  unfold PR
  rw [zIW_0 hw']
  refine ⟨CV_aim h1 hk he, PQ_mod (fun _ => rfl) (PQ_o h2 (by omega) (by omega) (by omega) (by omega) (by omega)), PN_o h3 (by omega) (by omega) (by omega), ?_, fun q => by rw [gI, if_neg (by omega)]; exact h5 q⟩
  obtain ⟨σ', e2, c2, -⟩ := ci_aimHere (X := X) (d := d) (Int32.ofNat (pos vC (a_i a) k)) h4
  rw [e1] at e2
  rw [rV_inj e2]; exact c2
/-- a try begins -/
theorem c_try (h : PC ci O T N a σ) (hw : wN a = 0) (hc : (a_c a).length < 100) : ∃ σ', sm_callM X true (d + 1) 16 [vP (10, ci)] σ = rI (Int32.ofNat (a_c a).length) σ' ∧ σ'.2.2.1 15 0 3 = (10, ci) ∧ PC ci O T N (aC (aH (zE a 33 0 0 0 (-1)) (zL a :: a_h a)) (a_c a ++ [zL a])) (sI σ' 10 ci 12 (Int32.ofNat (a_c a).length)) := by
  obtain ⟨hp, h1, h2, h3, h4, h5⟩ := h
  rw [zIW_0 hw] at h1 h2
  have e1 : sm_callM X true (d + 1) 16 [vP (10, ci)] σ = rI (Int32.ofNat (a_c a).length) (sI (sI σ 34 ci (a_c a).length (Int32.ofNat (pos vC (a_i a) (a_i a).length))) 10 ci 10 (Int32.ofNat ((a_c a).length + 1))) := by
    rw [f_X0_addTry, q_X0_addTry_0, h1.2.2.1, if_pos (by rw [show (100 : Int32) = Int32.ofNat 100 from rfl, i_lt (by omega) (by omega)]; exact hc), ix_nat hc (by decide), h1.1]
    rw [show (sI σ 34 ci (a_c a).length (Int32.ofNat (pos vC (a_i a) (a_i a).length))).1 10 ci 10 = Int32.ofNat (a_c a).length by rw [gI, if_neg (by omega)]; exact h1.2.2.1, i_s, gI, if_pos ⟨rfl, rfl, rfl⟩, i_pred]
  obtain ⟨y, σ', e2, c2, -⟩ := ci_addTry (X := X) (d := d) h4
  rw [e1] at e2
  rw [← (rI_inj e2).2] at c2
  refine ⟨_, e1, CI_code c2, PT_o (PT_o (PT_o hp (by omega) (by omega) (by omega) (by omega)) (by omega) (by omega) (by omega) (by omega)) (by omega) (by omega) (by omega) (by omega), ?_⟩
  have hw' : wN (aC (aH (zE a 33 0 0 0 (-1)) (zL a :: a_h a)) (a_c a ++ [zL a])) = 0 := hw
  unfold PR
  rw [zIW_0 hw']
  refine ⟨CV_try (e := (33, 0, 0, -1, 0, gNow a)) h1 rfl rfl rfl, PQ_app (PQ_o (PQ_o (PQ_o h2 (by omega) (by omega) (by omega) (by omega) (by omega)) (by omega) (by omega) (by omega) (by omega) (by omega)) (by omega) (by omega) (by omega) (by omega) (by omega)), PN_o (PN_o (PN_o h3 (by omega) (by omega) (by omega)) (by omega) (by omega) (by omega)) (by omega) (by omega) (by omega), CI_open c2, fun q => by rw [gI, if_neg (by omega), gI, if_neg (by omega), gI, if_neg (by omega)]; exact h5 q⟩
/-- a try's block ends: what was begun outside is begun again -/
theorem c_tried {h' : List Nat} (h : PC ci O T N a σ) (hw : wN a = 0) (hh : ∀ k ∈ h', k ≤ zL a) : PC ci O T N (aH (zE a 34 0 0 0 (-1)) h') (sI σ 10 ci 12 (ctr (a_i a) h')) := by
  obtain ⟨hp, h1, h2, h3, h4, h5⟩ := h
  rw [zIW_0 hw] at h1 h2
  refine ⟨PT_o hp (by omega) (by omega) (by omega) (by omega), ?_⟩
  have hw' : wN (aH (zE a 34 0 0 0 (-1)) h') = 0 := hw
  unfold PR
  rw [zIW_0 hw']
  exact ⟨CV_tried (e := (34, 0, 0, -1, 0, gNow a)) h1 rfl rfl rfl hh rfl, PQ_app (PQ_o h2 (by omega) (by omega) (by omega) (by omega) (by omega)), PN_o h3 (by omega) (by omega) (by omega), CI_open h4, fun q => by rw [gI, if_neg (by omega)]; exact h5 q⟩
/-- the catch stands here -/
theorem c_cat {k j slot : Nat} {e : zI} (h : PC ci O T N a σ) (hw : wN a = 0) (hc : (a_c a).length ≤ 100) (hk : (a_i a)[k]? = some e) (he : e.1 = 33) (hj : j < (a_c a).length) : ∃ σ', sm_callM X true (d + 1) 17 [vP (10, ci), vI (Int32.ofNat j)] σ = rV σ' ∧ PC ci O T N (zCat k j (zL a) slot a) σ' := by
  obtain ⟨hp, h1, h2, h3, h4, h5⟩ := h
  rw [zIW_0 hw] at h1 h2
  have e1 : sm_callM X true (d + 1) 17 [vP (10, ci), vI (Int32.ofNat j)] σ = rV (sI σ 34 ci j (Int32.ofNat (pos vC (a_i a) (a_i a).length))) := by
    rw [f_X0_catchHere, q_X0_catchHere_0, if_neg (i_nn (by omega)), h1.2.2.1, if_pos (by rw [i_lt (by omega) (by omega)]; exact hj), ix_nat (by omega) (by decide), h1.1]
  refine ⟨_, e1, PT_o hp (by omega) (by omega) (by omega) (by omega), ?_⟩
  have hw' : wN (zCat k j (zL a) slot a) = 0 := hw
  unfold PR
  rw [zIW_0 hw']
  refine ⟨CV_cat h1 hk he hj, PQ_mod (fun _ => rfl) (PQ_o h2 (by omega) (by omega) (by omega) (by omega) (by omega)), PN_o h3 (by omega) (by omega) (by omega), ?_, fun q => by rw [gI, if_neg (by omega)]; exact h5 q⟩
  obtain ⟨σ', e2, c2, -⟩ := ci_catchHere (X := X) (d := d) (Int32.ofNat j) h4
  rw [e1] at e2
  rw [rV_inj e2]; exact c2
end
