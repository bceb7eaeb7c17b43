section
/-! THE CLASS's MACHINE: what it does for each item that acts; ways that are common -/
variable {X : Nat × (Nat → Int32)} {d : Nat} {s σ σ' : sm_S} {W W' : zW} {B : Nat × Nat} {n i k m j ci b q pc q0 : Nat} {c t y nx v why : Int32} {x : zTx} {K K' : List (Nat × Int32)} {nm : Nat → Int32} {S : List Int32} {r F : List zFr} {fu : Nat} {l : List zI} {e : zI} {f : zFr}
theorem knw_go (hm : MC x W q0 f r e) (hf : falls e.1 = true) (ho : e.1 ≠ 6 ∧ e.1 ≠ 2 ∧ e.1 ≠ 33 ∧ e.1 ≠ 34) : ∀ y ∈ knw x.1 (f.2.1 + 1), y ∈ knw x.1 f.2.1 := by
  obtain ⟨hx, -, hF, hi, -, -⟩ := hm
  obtain ⟨e', l1, l2, l3⟩ := Lands_0 ((wt_ok hx hi).2.1 hf)
  intro y hy
  rw [knw_e l1] at hy
  rw [knw_e hi]
  have := l3.2.1 y hy
  obtain ⟨op, arg, tgt, pl, ty, g⟩ := e
  rw [gNx_d ho] at this
  exact this
theorem room_go (hm : MC x W q0 f r e) (hf : falls e.1 = true) (ho : e.1 ≠ 6 ∧ e.1 ≠ 2 ∧ e.1 ≠ 33 ∧ e.1 ≠ 34) : hgt r + 24 + (effS x.2.2 e.1 e.2.1 e.2.2.2.2.1 (i_g e).1).length ≤ 1560 ∧ (i_g e).1.length = f.2.2.2.length := by
  obtain ⟨hx, -, hF, hi, hl, -⟩ := hm
  obtain ⟨e', l1, l2, l3⟩ := Lands_0 ((wt_ok hx hi).2.1 hf)
  obtain ⟨⟨b1, -⟩, -⟩ := hx.1 _ e' l1
  have hh := hgt_FsOk hx _ _ (cur_ok hF hi).2.2.2
  have hs := (cur_ok hF hi).1.1
  have hl : r.length + 1 ≤ 15 := hl
  obtain ⟨op, arg, tgt, pl, ty, g⟩ := e
  rw [gNx_d ho] at l3
  have l31 : (i_g e').1 = effS x.2.2 op arg ty g.1 := l3.1
  rw [l31] at b1
  refine ⟨?_, hs⟩
  show hgt r + 24 + (effS x.2.2 op arg ty g.1).length ≤ 1560
  omega
/-- room for what an item gives -/
theorem roomG (hm : MC x W q0 f r e) (hf : falls e.1 = true) (ho : e.1 ≠ 6 ∧ e.1 ≠ 2 ∧ e.1 ≠ 33 ∧ e.1 ≠ 34) (hp : zPush e.1 = true) : hgt r + 24 + (f.2.2.2.drop (zPops x.2.2 e.1 e.2.1)).length < 1560 := by
  obtain ⟨h1, h2⟩ := room_go hm hf ho
  unfold effS at h1
  rw [hp] at h1
  have h1 : hgt r + 24 + (e.2.2.2.2.1 :: (i_g e).1.drop (zPops x.2.2 e.1 e.2.1)).length ≤ 1560 := h1
  rw [List.length_cons, List.length_drop, h2] at h1
  rw [List.length_drop]
  omega
theorem CO_go (hm : MC x W q0 f r e) (hv : vC e.1 = true) (hf : falls e.1 = true) (ho : e.1 ≠ 6 ∧ e.1 ≠ 2 ∧ e.1 ≠ 33 ∧ e.1 ≠ 34) (h : CG x ci W' B (knw x.1 f.2.1) f.2.2.1 S r (Int32.ofNat (pos vC x.1 f.2.1 + 1)) fu σ) : CO x ci B (goM W' f r fu S) σ := by
  refine Or.inl ⟨(f.1, f.2.1 + 1, f.2.2.1, S), r, rfl, ?_⟩
  show CG x ci W' B (knw x.1 (f.2.1 + 1)) f.2.2.1 S r (Int32.ofNat (pos vC x.1 (f.2.1 + 1))) fu σ
  rw [pos_s hm.2.2.2.1, if_pos hv]
  exact CG_k (knw_go hm hf ho) h
/-! what the yards' methods write -/
def y_M (k : Nat) : Bool := (Nat.ble 23 k && Nat.ble k 29) || ((Nat.ble 31 k && Nat.ble k 40) || ((Nat.ble 120 k && Nat.ble k 128) || ((Nat.ble 144 k && Nat.ble k 155) || ((Nat.ble 157 k && Nat.ble k 165) || Nat.ble 294 k))))
def y_A : sm_A := fun q t k => match q with
  | 0 => t == 16 || t == 18 || t == 19 || t == 20 || (t == 12 && (k == 3 || k == 4)) || t == 39
  | 2 => t == 51 || t == 56 || t == 57 || t == 40 || t == 41 || (t == 16 && k == 3) || (t == 18 && k == 0)
  | 3 => t == 16 || t == 18 || t == 19 || t == 51
  | 4 => true
  | _ => false
theorem y_ok : (List.range 308).all (fun k => !(y_M k) || (sm_cd k).all (sm_ckA true y_A y_M)) = true := by decide +kernel
theorem y_fr {k : Nat} {As : List sm_V} {o : sm_O} {t : sm_S} (hk : y_M k = true) (h : sm_callM X true d k As σ = some (o, t)) : sm_fr y_A σ t := by
  refine sm_callM_fr (fun k hk hM => ?_) d k As σ o t hk h
  have := List.all_eq_true.mp y_ok k (List.mem_range.mpr hk)
  rw [hM] at this
  exact this
theorem CS_fr (hs : sm_fr y_A σ σ') (h : CS x ci K nm S r nx fu σ) : CS x ci K nm S r nx fu σ' := by
  obtain ⟨l1, -, l3, -⟩ := hs
  obtain ⟨h1, h2, h3, h4, h5, h6, h7, h8, h9, h10⟩ := h
  refine ⟨CTx_s (fun t k ht => l1 t ci k ?_) h1, (l3 13 0 7 rfl).trans h2, (l1 13 0 8 rfl).trans h3, (l1 13 0 9 rfl).trans h4, (l1 13 0 10 rfl).trans h5, (l1 13 0 11 rfl).trans h6, (l1 13 0 12 rfl).trans h7, CF1_s (σ := σ) (fun j _ => l1 42 0 j rfl) (fun j _ => ⟨l1 43 0 j rfl, l1 44 0 j rfl⟩) h8, CF_s (σ := σ) r (fun j _ => l1 42 0 j rfl) (fun j _ => ⟨l1 43 0 j rfl, l1 44 0 j rfl⟩) h9, h10⟩
  show (t == 16 || t == 18 || t == 19 || t == 20 || (t == 12 && (sm_nk t k == 3 || sm_nk t k == 4)) || t == 39) = false
  rw [show (t == 16) = false by simp; omega, show (t == 18) = false by simp; omega, show (t == 19) = false by simp; omega, show (t == 20) = false by simp; omega, show (t == 12) = false by simp; omega, show (t == 39) = false by simp; omega]
  rfl
theorem CG_y {As : List sm_V} {o : sm_O} (hk : y_M k = true) (e1 : sm_callM X true d k As σ = some (o, σ')) (h : CG x ci W B K nm S r nx fu σ) (hw : CW W' B σ') : CG x ci W' B K nm S r nx fu σ' := ⟨hw, CS_fr (y_fr hk e1) h.2⟩
/-! what is taken from the operands, as the class has it -/
theorem c_vehOfT (hW : WW W) (h : CW W B σ) (hv : VT W t c) (ht : t < 18) : sm_callM X true (d + 1) 161 [vP (20, 0), vI c] σ = rP (pV c) σ := by
  by_cases z : c = 0
  · rw [z, c_vehOf0]; rfl
  · obtain ⟨n, k, n1, rfl, -⟩ := VT_v hv ht z
    have a1 := hW.1.1
    rw [c_vehOf hW h n1]
    unfold pV
    rw [if_neg z, ixV_rf (by omega)]
theorem c_rowOfT (hW : WW W) (h : CW W B σ) (hv : VT W t c) (ht : ¬ t < 18) (ht2 : t < 36) : sm_callM X true (d + 1) 162 [vP (20, 0), vI c] σ = rP (pR c) σ := by
  by_cases z : c = 0
  · rw [z, c_rowOf0 (by decide)]; rfl
  · obtain ⟨n, k, n1, rfl, -⟩ := VT_r hv ht ht2 z
    have a1 := hW.1.2.1
    rw [c_rowOf hW h n1]
    unfold pR
    rw [if_neg z, ixR_rf (by omega)]
theorem VT_row (hW : WW W) (hv : VT W t c) (ht : ¬ t < 18) (ht2 : t < 36) (hc : c ≠ 0) : ixR c < (w_r W).length ∧ pR c = (16, ixR c) := by
  obtain ⟨n, k, n1, rfl, -⟩ := VT_r hv ht ht2 hc
  have a1 := hW.1.2.1
  refine ⟨by rw [ixR_rf (by omega)]; exact n1, ?_⟩
  unfold pR; rw [if_neg hc]
theorem VT_veh (hW : WW W) (hv : VT W t c) (ht : t < 18) (hc : c ≠ 0) : ixV c < (w_v W).length ∧ pV c = (19, ixV c) := by
  obtain ⟨n, k, n1, rfl, -⟩ := VT_v hv ht hc
  have a1 := hW.1.1
  refine ⟨by rw [ixV_rf (by omega)]; exact n1, ?_⟩
  unfold pV; rw [if_neg hc]
theorem VT_c (hv : VT W t c) (ht : t < 18) : ∃ k, cOk W k c := by
  by_cases z : c = 0
  · exact ⟨0, Or.inl z⟩
  · obtain ⟨n, k, n1, n2, n3, n4, n5⟩ := VT_v hv ht z
    obtain ⟨-, b, -, rfl⟩ := bel_rng n5
    exact ⟨b, Or.inr ⟨n, k, n1, n2, n3, n4, n5⟩⟩
theorem dA_4 {a : Int32} : sm_callM X true (d + 1) 56 [vP (13, 0), vI 4, vI a] σ = sm_bV (sm_callM X true d 45 [vP (13, 0), vI a] σ) sm_tw fun s => rV s := by rw [f_X3_doAct, q_X3_doAct_0]; rfl
theorem dA_5 {a : Int32} : sm_callM X true (d + 1) 56 [vP (13, 0), vI 5, vI a] σ = sm_bI (sm_callM X true d 48 [vP (13, 0), vI a] σ) sm_tw fun y s => sm_bV (sm_callM X true d 45 [vP (13, 0), vI y] s) sm_tw fun s => rV s := by rw [f_X3_doAct, q_X3_doAct_0]; rfl
theorem dA_6 {a : Int32} : sm_callM X true (d + 1) 56 [vP (13, 0), vI 6, vI a] σ = sm_bI (sm_callM X true d 46 [vP (13, 0)] σ) sm_tw fun y s => sm_bV (sm_callM X true d 49 [vP (13, 0), vI a, vI y] s) sm_tw fun s => rV s := by rw [f_X3_doAct, q_X3_doAct_0]; rfl
theorem dA_7 {a : Int32} : sm_callM X true (d + 1) 56 [vP (13, 0), vI 7, vI a] σ = sm_bV (sm_callM X true d 57 [vP (13, 0), vI 7] σ) sm_tw fun s => rV s := by rw [f_X3_doAct, q_X3_doAct_0]; rfl
theorem dA_8 {a : Int32} : sm_callM X true (d + 1) 56 [vP (13, 0), vI 8, vI a] σ = sm_bV (sm_callM X true d 57 [vP (13, 0), vI 8] σ) sm_tw fun s => rV s := by rw [f_X3_doAct, q_X3_doAct_0]; rfl
theorem dA_9 {a : Int32} : sm_callM X true (d + 1) 56 [vP (13, 0), vI 9, vI a] σ = sm_bV (sm_callM X true d 57 [vP (13, 0), vI 9] σ) sm_tw fun s => rV s := by rw [f_X3_doAct, q_X3_doAct_0]; rfl
theorem dA_10 {a : Int32} : sm_callM X true (d + 1) 56 [vP (13, 0), vI 10, vI a] σ = sm_bV (sm_callM X true d 57 [vP (13, 0), vI 10] σ) sm_tw fun s => rV s := by rw [f_X3_doAct, q_X3_doAct_0]; rfl
theorem dA_11 {a : Int32} : sm_callM X true (d + 1) 56 [vP (13, 0), vI 11, vI a] σ = sm_bV (sm_callM X true d 57 [vP (13, 0), vI 11] σ) sm_tw fun s => rV s := by rw [f_X3_doAct, q_X3_doAct_0]; rfl
theorem dA_12 {a : Int32} : sm_callM X true (d + 1) 56 [vP (13, 0), vI 12, vI a] σ = sm_bV (sm_callM X true d 57 [vP (13, 0), vI 12] σ) sm_tw fun s => rV s := by rw [f_X3_doAct, q_X3_doAct_0]; rfl
theorem dA_13 {a : Int32} : sm_callM X true (d + 1) 56 [vP (13, 0), vI 13, vI a] σ = sm_bV (sm_callM X true d 58 [vP (13, 0), vI a] σ) sm_tw fun s => rV s := by rw [f_X3_doAct, q_X3_doAct_0]; rfl
theorem dA_14 {a : Int32} : sm_callM X true (d + 1) 56 [vP (13, 0), vI 14, vI a] σ = sm_bV (sm_callM X true d 59 [vP (13, 0), vI a] σ) sm_tw fun s => rV s := by rw [f_X3_doAct, q_X3_doAct_0]; rfl
theorem dA_15 {a : Int32} : sm_callM X true (d + 1) 56 [vP (13, 0), vI 15, vI a] σ = sm_bV (sm_callM X true d 60 [vP (13, 0)] σ) sm_tw fun s => rV s := by rw [f_X3_doAct, q_X3_doAct_0]; rfl
theorem dA_16 {a : Int32} : sm_callM X true (d + 1) 56 [vP (13, 0), vI 16, vI a] σ = sm_bV (sm_callM X true d 61 [vP (13, 0)] σ) sm_tw fun s => rV s := by rw [f_X3_doAct, q_X3_doAct_0]; rfl
theorem dA_19 {a : Int32} : sm_callM X true (d + 1) 56 [vP (13, 0), vI 19, vI a] σ = sm_bV (sm_callM X true d 64 [vP (13, 0)] σ) sm_tw fun s => rV s := by rw [f_X3_doAct, q_X3_doAct_0]; rfl
theorem dA_23 {a : Int32} : sm_callM X true (d + 1) 56 [vP (13, 0), vI 23, vI a] σ = sm_bV (sm_callM X true d 68 [vP (13, 0)] σ) sm_tw fun s => rV s := by rw [f_X3_doAct, q_X3_doAct_0]; rfl
theorem dA_29 {a : Int32} : sm_callM X true (d + 1) 56 [vP (13, 0), vI 29, vI a] σ = sm_bV (sm_callM X true d 69 [vP (13, 0)] σ) sm_tw fun s => rV s := by rw [f_X3_doAct, q_X3_doAct_0]; rfl
theorem dA_30 {a : Int32} : sm_callM X true (d + 1) 56 [vP (13, 0), vI 30, vI a] σ = sm_bV (sm_callM X true d 70 [vP (13, 0)] σ) sm_tw fun s => rV s := by rw [f_X3_doAct, q_X3_doAct_0]; rfl
theorem dA_31 {a : Int32} : sm_callM X true (d + 1) 56 [vP (13, 0), vI 31, vI a] σ = sm_bV (sm_callM X true d 71 [vP (13, 0)] σ) sm_tw fun s => rV s := by rw [f_X3_doAct, q_X3_doAct_0]; rfl
theorem dA_17 {a : Int32} : sm_callM X true (d + 1) 56 [vP (13, 0), vI 17, vI a] σ = sm_bV (sm_callM X true d 62 [vP (13, 0), vI a] σ) sm_tw fun s => rV s := by rw [f_X3_doAct, q_X3_doAct_0]; rfl
theorem dA_18 {a : Int32} : sm_callM X true (d + 1) 56 [vP (13, 0), vI 18, vI a] σ = sm_bV (sm_callM X true d 63 [vP (13, 0), vI a] σ) sm_tw fun s => rV s := by rw [f_X3_doAct, q_X3_doAct_0]; rfl
theorem dA_20 {a : Int32} : sm_callM X true (d + 1) 56 [vP (13, 0), vI 20, vI a] σ = sm_bV (sm_callM X true d 65 [vP (13, 0), vI a] σ) sm_tw fun s => rV s := by rw [f_X3_doAct, q_X3_doAct_0]; rfl
theorem dA_21 {a : Int32} : sm_callM X true (d + 1) 56 [vP (13, 0), vI 21, vI a] σ = sm_bV (sm_callM X true d 66 [vP (13, 0), vI a] σ) sm_tw fun s => rV s := by rw [f_X3_doAct, q_X3_doAct_0]; rfl
theorem dA_27 {a : Int32} : sm_callM X true (d + 1) 56 [vP (13, 0), vI 27, vI a] σ = sm_bV (sm_callM X true d 50 [vP (13, 0), vI a] σ) sm_tw fun s => rV s := by rw [f_X3_doAct, q_X3_doAct_0]; rfl
theorem dA_22 {a : Int32} : sm_callM X true (d + 1) 56 [vP (13, 0), vI 22, vI a] σ = sm_bI (sm_callM X true d 46 [vP (13, 0)] σ) sm_tw fun y s => sm_bV (sm_callM X true d 67 [vP (13, 0), vI y] s) sm_tw fun s => rV s := by rw [f_X3_doAct, q_X3_doAct_0]; rfl
theorem dA_24 {a : Int32} : sm_callM X true (d + 1) 56 [vP (13, 0), vI 24, vI a] σ = if a = 1 then sm_bI (sm_callM X true d 46 [vP (13, 0)] σ) sm_tw fun y s => sm_bV (sm_callM X true d 51 [vP (13, 0), vI y] s) sm_tw fun s => rV s else sm_bV (sm_callM X true d 51 [vP (13, 0), vI 0] σ) sm_tw fun s => rV s := by rw [f_X3_doAct, q_X3_doAct_0]; rfl
theorem dA_25 {a : Int32} : sm_callM X true (d + 1) 56 [vP (13, 0), vI 25, vI a] σ = sm_bI (sm_callM X true d 46 [vP (13, 0)] σ) sm_tw fun y s => sm_bV (sm_callM X true d 54 [vP (13, 0), vI 6, vI y] s) sm_tw fun s => rV s := by rw [f_X3_doAct, q_X3_doAct_0]; rfl
theorem dA_26 {a : Int32} : sm_callM X true (d + 1) 56 [vP (13, 0), vI 26, vI a] σ = sm_bI (sm_callM X true d 46 [vP (13, 0)] σ) sm_tw fun y s => if y = 0 then rV (sI s 13 0 10 a) else rV (sI s 13 0 10 (s.1 13 0 10)) := by rw [f_X3_doAct, q_X3_doAct_0]; rfl
theorem dA_28 {a : Int32} : sm_callM X true (d + 1) 56 [vP (13, 0), vI 28, vI a] σ = sm_bI (sm_callM X true d 46 [vP (13, 0)] σ) sm_tw fun y s => sm_bP (sm_callM X true d 33 [vP (12, 0), vI y] s) sm_tw fun p s => sm_bI (sm_callM X true d 164 [vP p] s) sm_tw fun y s => sm_bV (sm_callM X true d 45 [vP (13, 0), vI y] s) sm_tw fun s => rV s := by rw [f_X3_doAct, q_X3_doAct_0]; rfl
theorem dA_32 {a : Int32} : sm_callM X true (d + 1) 56 [vP (13, 0), vI 32, vI a] σ = sm_bV (sm_callM X true d 45 [vP (13, 0), vI (σ.1 12 0 4)] σ) sm_tw fun s => rV s := by rw [f_X3_doAct, q_X3_doAct_0]; rfl
theorem c_sg7 {c0 c1 : Int32} (h : CG x ci W B K nm (c0 :: c1 :: S) r nx fu σ) (hl : hgt r + 24 + S.length < 1560) : ∃ σ', sm_callM X true (d + 2) 57 [vP (13, 0), vI 7] σ = rV σ' ∧ CG x ci W B K nm ((c1 + c0) :: S) r nx fu σ' := by
  obtain ⟨σ1, e1, h1⟩ := c_pop (X := X) (d := d) h
  obtain ⟨σ2, e2, h2⟩ := c_pop (X := X) (d := d) h1
  rw [f_X3_doSign, q_X3_doSign_0, e1, bI_r, e2, bI_r]
  obtain ⟨σ3, e3, h3⟩ := c_push (X := X) (d := d) (c := c1 + c0) h2 hl
  show ∃ σ', sm_bV (sm_callM X true (d + 1) 45 [vP (13, 0), vI (c1 + c0)] σ2) sm_tw (fun s => rV s) = rV σ' ∧ _
  rw [e3, bV_r]
  exact ⟨σ3, rfl, h3⟩
theorem c_sg8 {c0 c1 : Int32} (h : CG x ci W B K nm (c0 :: c1 :: S) r nx fu σ) (hl : hgt r + 24 + S.length < 1560) : ∃ σ', sm_callM X true (d + 2) 57 [vP (13, 0), vI 8] σ = rV σ' ∧ CG x ci W B K nm ((c1 - c0) :: S) r nx fu σ' := by
  obtain ⟨σ1, e1, h1⟩ := c_pop (X := X) (d := d) h
  obtain ⟨σ2, e2, h2⟩ := c_pop (X := X) (d := d) h1
  rw [f_X3_doSign, q_X3_doSign_0, e1, bI_r, e2, bI_r]
  obtain ⟨σ3, e3, h3⟩ := c_push (X := X) (d := d) (c := c1 - c0) h2 hl
  show ∃ σ', sm_bV (sm_callM X true (d + 1) 45 [vP (13, 0), vI (c1 - c0)] σ2) sm_tw (fun s => rV s) = rV σ' ∧ _
  rw [e3, bV_r]
  exact ⟨σ3, rfl, h3⟩
theorem c_sg9 {c0 c1 : Int32} (h : CG x ci W B K nm (c0 :: c1 :: S) r nx fu σ) (hl : hgt r + 24 + S.length < 1560) : ∃ σ', sm_callM X true (d + 2) 57 [vP (13, 0), vI 9] σ = rV σ' ∧ CG x ci W B K nm ((c1 * c0) :: S) r nx fu σ' := by
  obtain ⟨σ1, e1, h1⟩ := c_pop (X := X) (d := d) h
  obtain ⟨σ2, e2, h2⟩ := c_pop (X := X) (d := d) h1
  rw [f_X3_doSign, q_X3_doSign_0, e1, bI_r, e2, bI_r]
  obtain ⟨σ3, e3, h3⟩ := c_push (X := X) (d := d) (c := c1 * c0) h2 hl
  show ∃ σ', sm_bV (sm_callM X true (d + 1) 45 [vP (13, 0), vI (c1 * c0)] σ2) sm_tw (fun s => rV s) = rV σ' ∧ _
  rw [e3, bV_r]
  exact ⟨σ3, rfl, h3⟩
theorem c_sg10 {c0 c1 : Int32} (h : CG x ci W B K nm (c0 :: c1 :: S) r nx fu σ) (hl : hgt r + 24 + S.length < 1560) : ∃ σ', sm_callM X true (d + 2) 57 [vP (13, 0), vI 10] σ = rV σ' ∧ CG x ci W B K nm ((if c1 = c0 then (1 : Int32) else 0) :: S) r nx fu σ' := by
  obtain ⟨σ1, e1, h1⟩ := c_pop (X := X) (d := d) h
  obtain ⟨σ2, e2, h2⟩ := c_pop (X := X) (d := d) h1
  rw [f_X3_doSign, q_X3_doSign_0, e1, bI_r, e2, bI_r]
  show ∃ σ', (if c1 = c0 then sm_bV (sm_callM X true (d + 1) 45 [vP (13, 0), vI 1] σ2) sm_tw (fun s => rV s) else sm_bV (sm_callM X true (d + 1) 45 [vP (13, 0), vI 0] σ2) sm_tw (fun s => rV s)) = rV σ' ∧ _
  by_cases q : c1 = c0
  · obtain ⟨σ3, e3, h3⟩ := c_push (X := X) (d := d) (c := 1) h2 hl
    rw [if_pos q, if_pos q, e3, bV_r]
    exact ⟨σ3, rfl, h3⟩
  · obtain ⟨σ3, e3, h3⟩ := c_push (X := X) (d := d) (c := 0) h2 hl
    rw [if_neg q, if_neg q, e3, bV_r]
    exact ⟨σ3, rfl, h3⟩
theorem c_sg11 {c0 c1 : Int32} (h : CG x ci W B K nm (c0 :: c1 :: S) r nx fu σ) (hl : hgt r + 24 + S.length < 1560) : ∃ σ', sm_callM X true (d + 2) 57 [vP (13, 0), vI 11] σ = rV σ' ∧ CG x ci W B K nm ((if c1 = c0 then (0 : Int32) else 1) :: S) r nx fu σ' := by
  obtain ⟨σ1, e1, h1⟩ := c_pop (X := X) (d := d) h
  obtain ⟨σ2, e2, h2⟩ := c_pop (X := X) (d := d) h1
  rw [f_X3_doSign, q_X3_doSign_0, e1, bI_r, e2, bI_r]
  show ∃ σ', (if c1 = c0 then sm_bV (sm_callM X true (d + 1) 45 [vP (13, 0), vI 0] σ2) sm_tw (fun s => rV s) else sm_bV (sm_callM X true (d + 1) 45 [vP (13, 0), vI 1] σ2) sm_tw (fun s => rV s)) = rV σ' ∧ _
  by_cases q : c1 = c0
  · obtain ⟨σ3, e3, h3⟩ := c_push (X := X) (d := d) (c := 0) h2 hl
    rw [if_pos q, if_pos q, e3, bV_r]
    exact ⟨σ3, rfl, h3⟩
  · obtain ⟨σ3, e3, h3⟩ := c_push (X := X) (d := d) (c := 1) h2 hl
    rw [if_neg q, if_neg q, e3, bV_r]
    exact ⟨σ3, rfl, h3⟩
theorem c_sg12 {c0 c1 : Int32} (h : CG x ci W B K nm (c0 :: c1 :: S) r nx fu σ) (hl : hgt r + 24 + S.length < 1560) : ∃ σ', sm_callM X true (d + 2) 57 [vP (13, 0), vI 12] σ = rV σ' ∧ CG x ci W B K nm ((if c1 < c0 then (1 : Int32) else 0) :: S) r nx fu σ' := by
  obtain ⟨σ1, e1, h1⟩ := c_pop (X := X) (d := d) h
  obtain ⟨σ2, e2, h2⟩ := c_pop (X := X) (d := d) h1
  rw [f_X3_doSign, q_X3_doSign_0, e1, bI_r, e2, bI_r]
  show ∃ σ', (if c1 < c0 then sm_bV (sm_callM X true (d + 1) 45 [vP (13, 0), vI 1] σ2) sm_tw (fun s => rV s) else sm_bV (sm_callM X true (d + 1) 45 [vP (13, 0), vI 0] σ2) sm_tw (fun s => rV s)) = rV σ' ∧ _
  by_cases q : c1 < c0
  · obtain ⟨σ3, e3, h3⟩ := c_push (X := X) (d := d) (c := 1) h2 hl
    rw [if_pos q, if_pos q, e3, bV_r]
    exact ⟨σ3, rfl, h3⟩
  · obtain ⟨σ3, e3, h3⟩ := c_push (X := X) (d := d) (c := 0) h2 hl
    rw [if_neg q, if_neg q, e3, bV_r]
    exact ⟨σ3, rfl, h3⟩
end
