section
/-! THE REFERENCE's MACHINE: what it does for each item that acts -/
variable {X : Nat × (Nat → Int32)} {d : Nat} {s σ σ' : sm_S} {W W' : zW} {n i k m j mi q pc q0 tgt : Nat} {c t u nx v arg ty pl : Int32} {x : zTx} {K : List (Nat × Int32)} {nm : Nat → Int32} {S ops L : List Int32} {H : List Nat} {r : List zFr} {fu : Nat} {e : zI} {f : zFr} {g : zG}
theorem room_m (hm : MC x W q0 f r e) : hM x.1 r ≤ 1120 ∧ f.2.2.2.length ≤ 80 := by
  obtain ⟨hx, -, hF, hi, hl, -⟩ := hm
  have h1 := hM_ok hx r _ (cur_ok hF hi).2.2.2
  have h2 := ops_ok hx hF
  have hl : r.length + 1 ≤ 15 := hl
  exact ⟨by omega, h2⟩
theorem mV_ref (h1 : t ≠ 36) (h2 : t ≠ 38) : mV t c = if c < 0 then 1000 - c else c := by
  unfold mV; rw [if_neg (fun z => z.elim h1 h2)]
theorem mV_fit (h : cFit u t = 1) : u ≠ 38 ∧ t ≠ 38 ∧ ∀ c, mV u c = mV t c := by
  unfold cFit at h
  by_cases q37 : u = 37
  · rw [if_pos q37] at h
    have := cRef_n h
    exact ⟨by rw [q37]; decide, this.2, fun c => by rw [mV_ref (by rw [q37]; decide) (by rw [q37]; decide), mV_ref this.1 this.2]⟩
  · rw [if_neg q37] at h
    by_cases q36 : u = 36
    · rw [if_pos q36] at h
      by_cases z : t = 36
      · rw [q36, z]; exact ⟨by decide, by decide, fun _ => rfl⟩
      · rw [if_neg z] at h; exact absurd h (by decide)
    · rw [if_neg q36] at h
      obtain ⟨⟨a, a1, rfl⟩, b, b1, rfl⟩ := bel_rng h
      have ra := cRef_n (cRef_k a a1)
      have rb := cRef_n (cRef_k b b1)
      exact ⟨ra.2, rb.2, fun c => by rw [mV_ref ra.1 ra.2, mV_ref rb.1 rb.2]⟩
theorem row_n (h : ¬ t < 18 ∧ t < 36) : t ≠ 36 ∧ t ≠ 38 ∧ cRef t = 1 ∧ t ≠ 37 := by
  obtain ⟨n, n1, rfl⟩ := i32_nat (n := 36) (by decide) (fun z => h.1 (by
      rw [Int32.lt_iff_toInt_lt] at z ⊢
      rw [show (0 : Int32).toInt = 0 from rfl] at z
      rw [show (18 : Int32).toInt = 18 from rfl]; omega)) h.2
  have := cRef_n (cRef_k n n1)
  refine ⟨this.1, this.2, cRef_k n n1, ?_⟩
  rw [show (37 : Int32) = Int32.ofNat 37 from rfl, Ne, i_eq (by omega) (by omega)]; omega
theorem mA_0 {a k' : Int32} : sm_callM X true (d + 1) 261 [vP (23, 0), vI 0, vI a, vI k'] σ = sm_bV (sm_callM X true d 253 [vP (23, 0), vI a] σ) sm_tw fun s => rV s := by rw [f_X13_act, q_X13_act_0]; rfl
theorem mA_1 {a k' : Int32} : sm_callM X true (d + 1) 261 [vP (23, 0), vI 1, vI a, vI k'] σ = sm_ix ((24 * (σ.1 23 0 39)) + a) 360 fun z => sm_bV (sm_callM X true d 253 [vP (23, 0), vI (σ.1 82 0 z)] σ) sm_tw fun s => rV s := by rw [f_X13_act, q_X13_act_0]; rfl
theorem mA_2 {a k' : Int32} : sm_callM X true (d + 1) 261 [vP (23, 0), vI 2, vI a, vI k'] σ = sm_bI (sm_callM X true d 254 [vP (23, 0)] σ) sm_tw fun y s => sm_ix ((24 * (σ.1 23 0 39)) + a) 360 fun z => rV (sI s 82 0 z y) := by rw [f_X13_act, q_X13_act_0]; rfl
theorem mA_3 {a k' : Int32} : sm_callM X true (d + 1) 261 [vP (23, 0), vI 3, vI a, vI k'] σ = sm_bV (sm_callM X true d 264 [vP (23, 0), vI k'] σ) sm_tw fun s => rV s := by rw [f_X13_act, q_X13_act_0]; rfl
theorem mA_4 {a k' : Int32} : sm_callM X true (d + 1) 261 [vP (23, 0), vI 4, vI a, vI k'] σ = sm_bV (sm_callM X true d 265 [vP (23, 0), vI k'] σ) sm_tw fun s => rV s := by rw [f_X13_act, q_X13_act_0]; rfl
theorem mA_5 {a k' : Int32} : sm_callM X true (d + 1) 261 [vP (23, 0), vI 5, vI a, vI k'] σ = sm_bI (sm_callM X true d 254 [vP (23, 0)] σ) sm_tw fun y s => if y = 0 then sm_bV (sm_callM X true d 256 [vP (23, 0), vI 1, vI 0, vI k'] s) sm_tw fun s => rV s else sm_bI (sm_callM X true d 247 [vI y] s) sm_tw fun v s => sm_bI (sm_callM X true d 252 [vP (23, 0), vI v, vI a] s) sm_tw fun w s => sm_bV (sm_callM X true d 253 [vP (23, 0), vI w] s) sm_tw fun s => rV s := by rw [f_X13_act, q_X13_act_0]; rfl
theorem mA_6 {a k' : Int32} : sm_callM X true (d + 1) 261 [vP (23, 0), vI 6, vI a, vI k'] σ = sm_bI (sm_callM X true d 254 [vP (23, 0)] σ) sm_tw fun w s => sm_bI (sm_callM X true d 254 [vP (23, 0)] s) sm_tw fun y s => if y = 0 then sm_bV (sm_callM X true d 256 [vP (23, 0), vI 1, vI 0, vI k'] s) sm_tw fun s => rV s else sm_bI (sm_callM X true d 247 [vI y] s) sm_tw fun v s => sm_ix ((9 * v) + a) 2700 fun z => rV (sI s 75 0 z w) := by rw [f_X13_act, q_X13_act_0]; rfl
theorem mA_7 {a k' : Int32} : sm_callM X true (d + 1) 261 [vP (23, 0), vI 7, vI a, vI k'] σ = sm_bI (sm_callM X true d 254 [vP (23, 0)] σ) sm_tw fun y s => if y = 0 then sm_bV (sm_callM X true d 256 [vP (23, 0), vI 1, vI 0, vI k'] s) sm_tw fun s => rV s else sm_ix (y - 1001) 200 fun z => sm_bV (sm_callM X true d 253 [vP (23, 0), vI (s.1 78 0 z)] s) sm_tw fun s => rV s := by rw [f_X13_act, q_X13_act_0]; rfl
theorem mA_8 {a k' : Int32} : sm_callM X true (d + 1) 261 [vP (23, 0), vI 8, vI a, vI k'] σ = sm_ix ((σ.1 23 0 37) - 1) 4000 fun z => if (σ.1 81 0 z) = 0 then rV σ else sm_ix ((σ.1 23 0 37) - 1) 4000 fun z => sm_bI (sm_callM X true d 248 [vP (23, 0), vI (σ.1 81 0 z), vI a] σ) sm_tw fun y s => if y = 0 then sm_bV (sm_callM X true d 256 [vP (23, 0), vI 4, vI 0, vI k'] s) sm_tw fun s => rV s else rV s := by rw [f_X13_act, q_X13_act_0]; rfl
theorem mA_9 {a k' : Int32} : sm_callM X true (d + 1) 261 [vP (23, 0), vI 9, vI a, vI k'] σ = sm_bI (sm_callM X true d 254 [vP (23, 0)] σ) sm_tw fun y s => sm_bI (sm_callM X true d 248 [vP (23, 0), vI y, vI a] s) sm_tw fun y s => if y = 0 then sm_bV (sm_callM X true d 253 [vP (23, 0), vI 0] s) sm_tw fun s => rV s else sm_bV (sm_callM X true d 253 [vP (23, 0), vI 1] s) sm_tw fun s => rV s := by rw [f_X13_act, q_X13_act_0]; rfl
theorem mA_10 {a k' : Int32} : sm_callM X true (d + 1) 261 [vP (23, 0), vI 10, vI a, vI k'] σ = sm_bV (sm_callM X true d 262 [vP (23, 0), vI 10] σ) sm_tw fun s => rV s := by rw [f_X13_act, q_X13_act_0]; rfl
theorem mA_11 {a k' : Int32} : sm_callM X true (d + 1) 261 [vP (23, 0), vI 11, vI a, vI k'] σ = sm_bV (sm_callM X true d 262 [vP (23, 0), vI 11] σ) sm_tw fun s => rV s := by rw [f_X13_act, q_X13_act_0]; rfl
theorem mA_12 {a k' : Int32} : sm_callM X true (d + 1) 261 [vP (23, 0), vI 12, vI a, vI k'] σ = sm_bV (sm_callM X true d 262 [vP (23, 0), vI 12] σ) sm_tw fun s => rV s := by rw [f_X13_act, q_X13_act_0]; rfl
theorem mA_13 {a k' : Int32} : sm_callM X true (d + 1) 261 [vP (23, 0), vI 13, vI a, vI k'] σ = sm_bV (sm_callM X true d 262 [vP (23, 0), vI 13] σ) sm_tw fun s => rV s := by rw [f_X13_act, q_X13_act_0]; rfl
theorem mA_14 {a k' : Int32} : sm_callM X true (d + 1) 261 [vP (23, 0), vI 14, vI a, vI k'] σ = sm_bV (sm_callM X true d 262 [vP (23, 0), vI 14] σ) sm_tw fun s => rV s := by rw [f_X13_act, q_X13_act_0]; rfl
theorem mA_15 {a k' : Int32} : sm_callM X true (d + 1) 261 [vP (23, 0), vI 15, vI a, vI k'] σ = sm_bV (sm_callM X true d 262 [vP (23, 0), vI 15] σ) sm_tw fun s => rV s := by rw [f_X13_act, q_X13_act_0]; rfl
theorem mA_16 {a k' : Int32} : sm_callM X true (d + 1) 261 [vP (23, 0), vI 16, vI a, vI k'] σ = sm_bV (sm_callM X true d 266 [vP (23, 0), vI a, vI k'] σ) sm_tw fun s => rV s := by rw [f_X13_act, q_X13_act_0]; rfl
theorem mA_17 {a k' : Int32} : sm_callM X true (d + 1) 261 [vP (23, 0), vI 17, vI a, vI k'] σ = sm_bV (sm_callM X true d 267 [vP (23, 0), vI a, vI k'] σ) sm_tw fun s => rV s := by rw [f_X13_act, q_X13_act_0]; rfl
theorem mA_18 {a k' : Int32} : sm_callM X true (d + 1) 261 [vP (23, 0), vI 18, vI a, vI k'] σ = sm_bV (sm_callM X true d 259 [vP (23, 0), vI a, vI k'] σ) sm_tw fun s => rV s := by rw [f_X13_act, q_X13_act_0]; rfl
theorem mA_19 {a k' : Int32} : sm_callM X true (d + 1) 261 [vP (23, 0), vI 19, vI a, vI k'] σ = sm_bI (sm_callM X true d 254 [vP (23, 0)] σ) sm_tw fun y s => if y = 0 then rV (sI s 23 0 48 a) else rV s := by rw [f_X13_act, q_X13_act_0]; rfl
theorem mA_20 {a k' : Int32} : sm_callM X true (d + 1) 261 [vP (23, 0), vI 20, vI a, vI k'] σ = sm_bI (sm_callM X true d 254 [vP (23, 0)] σ) sm_tw fun y s => sm_bV (sm_callM X true d 263 [vP (23, 0), vI y] s) sm_tw fun s => rV s := by rw [f_X13_act, q_X13_act_0]; rfl
theorem mA_21 {a k' : Int32} : sm_callM X true (d + 1) 261 [vP (23, 0), vI 21, vI a, vI k'] σ = sm_bI (sm_callM X true d 254 [vP (23, 0)] σ) sm_tw fun y s => if y = 0 then sm_bV (sm_callM X true d 263 [vP (23, 0), vI (-1000)] s) sm_tw fun s => rV s else if y < 1001 then sm_bI (sm_callM X true d 247 [vI y] s) sm_tw fun y s => sm_bV (sm_callM X true d 263 [vP (23, 0), vI y] s) sm_tw fun s => rV s else sm_ix (y - 1001) 200 fun z => sm_bV (sm_callM X true d 263 [vP (23, 0), vI ((-1) - (s.1 78 0 z))] s) sm_tw fun s => rV s := by rw [f_X13_act, q_X13_act_0]; rfl
theorem mA_22 {a k' : Int32} : sm_callM X true (d + 1) 261 [vP (23, 0), vI 22, vI a, vI k'] σ = sm_bI (sm_callM X true d 254 [vP (23, 0)] σ) sm_tw fun y s => sm_bV (sm_callM X true d 256 [vP (23, 0), vI 6, vI y, vI k'] s) sm_tw fun s => rV s := by rw [f_X13_act, q_X13_act_0]; rfl
theorem mA_23 {a k' : Int32} : sm_callM X true (d + 1) 261 [vP (23, 0), vI 23, vI a, vI k'] σ = sm_bI (sm_callM X true d 254 [vP (23, 0)] σ) sm_tw fun y s => sm_bV (sm_callM X true d 257 [vP (23, 0), vI y, vI 1] s) sm_tw fun s => rV s := by rw [f_X13_act, q_X13_act_0]; rfl
theorem mA_24 {a k' : Int32} : sm_callM X true (d + 1) 261 [vP (23, 0), vI 24, vI a, vI k'] σ = sm_bV (sm_callM X true d 257 [vP (23, 0), vI 0, vI 0] σ) sm_tw fun s => rV s := by rw [f_X13_act, q_X13_act_0]; rfl
theorem m_sg10 {c0 c1 : Int32} (h : MG x mi W K nm (c0 :: c1 :: L) H q r nx fu σ) (hl : hM x.1 r + L.length < 1300) : ∃ σ', sm_callM X true (d + 2) 262 [vP (23, 0), vI 10] σ = rV σ' ∧ MG x mi W K nm ((c1 + c0) :: L) H q r nx fu σ' := by
  obtain ⟨σ1, e1, h1⟩ := m_pop (X := X) (d := d) h
  obtain ⟨σ2, e2, h2⟩ := m_pop (X := X) (d := d) h1
  rw [f_X13_reckons, q_X13_reckons_0, e1, bI_r, e2, bI_r]
  obtain ⟨σ3, e3, h3⟩ := m_push (X := X) (d := d) (c := c1 + c0) h2 hl
  show ∃ σ', sm_bV (sm_callM X true (d + 1) 253 [vP (23, 0), vI (c1 + c0)] σ2) sm_tw (fun s => rV s) = rV σ' ∧ _
  rw [e3, bV_r]
  exact ⟨σ3, rfl, h3⟩
theorem m_sg11 {c0 c1 : Int32} (h : MG x mi W K nm (c0 :: c1 :: L) H q r nx fu σ) (hl : hM x.1 r + L.length < 1300) : ∃ σ', sm_callM X true (d + 2) 262 [vP (23, 0), vI 11] σ = rV σ' ∧ MG x mi W K nm ((c1 - c0) :: L) H q r nx fu σ' := by
  obtain ⟨σ1, e1, h1⟩ := m_pop (X := X) (d := d) h
  obtain ⟨σ2, e2, h2⟩ := m_pop (X := X) (d := d) h1
  rw [f_X13_reckons, q_X13_reckons_0, e1, bI_r, e2, bI_r]
  obtain ⟨σ3, e3, h3⟩ := m_push (X := X) (d := d) (c := c1 - c0) h2 hl
  show ∃ σ', sm_bV (sm_callM X true (d + 1) 253 [vP (23, 0), vI (c1 - c0)] σ2) sm_tw (fun s => rV s) = rV σ' ∧ _
  rw [e3, bV_r]
  exact ⟨σ3, rfl, h3⟩
theorem m_sg12 {c0 c1 : Int32} (h : MG x mi W K nm (c0 :: c1 :: L) H q r nx fu σ) (hl : hM x.1 r + L.length < 1300) : ∃ σ', sm_callM X true (d + 2) 262 [vP (23, 0), vI 12] σ = rV σ' ∧ MG x mi W K nm ((c1 * c0) :: L) H q r nx fu σ' := by
  obtain ⟨σ1, e1, h1⟩ := m_pop (X := X) (d := d) h
  obtain ⟨σ2, e2, h2⟩ := m_pop (X := X) (d := d) h1
  rw [f_X13_reckons, q_X13_reckons_0, e1, bI_r, e2, bI_r]
  obtain ⟨σ3, e3, h3⟩ := m_push (X := X) (d := d) (c := c1 * c0) h2 hl
  show ∃ σ', sm_bV (sm_callM X true (d + 1) 253 [vP (23, 0), vI (c1 * c0)] σ2) sm_tw (fun s => rV s) = rV σ' ∧ _
  rw [e3, bV_r]
  exact ⟨σ3, rfl, h3⟩
theorem m_sg13 {c0 c1 : Int32} (h : MG x mi W K nm (c0 :: c1 :: L) H q r nx fu σ) (hl : hM x.1 r + L.length < 1300) : ∃ σ', sm_callM X true (d + 2) 262 [vP (23, 0), vI 13] σ = rV σ' ∧ MG x mi W K nm ((if c1 = c0 then (1 : Int32) else 0) :: L) H q r nx fu σ' := by
  obtain ⟨σ1, e1, h1⟩ := m_pop (X := X) (d := d) h
  obtain ⟨σ2, e2, h2⟩ := m_pop (X := X) (d := d) h1
  rw [f_X13_reckons, q_X13_reckons_0, e1, bI_r, e2, bI_r]
  show ∃ σ', (if c1 = c0 then sm_bV (sm_callM X true (d + 1) 253 [vP (23, 0), vI 1] σ2) sm_tw (fun s => rV s) else sm_bV (sm_callM X true (d + 1) 253 [vP (23, 0), vI 0] σ2) sm_tw (fun s => rV s)) = rV σ' ∧ _
  by_cases q : c1 = c0
  · obtain ⟨σ3, e3, h3⟩ := m_push (X := X) (d := d) (c := 1) h2 hl
    rw [if_pos q, if_pos q, e3, bV_r]
    exact ⟨σ3, rfl, h3⟩
  · obtain ⟨σ3, e3, h3⟩ := m_push (X := X) (d := d) (c := 0) h2 hl
    rw [if_neg q, if_neg q, e3, bV_r]
    exact ⟨σ3, rfl, h3⟩
theorem m_sg14 {c0 c1 : Int32} (h : MG x mi W K nm (c0 :: c1 :: L) H q r nx fu σ) (hl : hM x.1 r + L.length < 1300) : ∃ σ', sm_callM X true (d + 2) 262 [vP (23, 0), vI 14] σ = rV σ' ∧ MG x mi W K nm ((if c1 = c0 then (0 : Int32) else 1) :: L) H q r nx fu σ' := by
  obtain ⟨σ1, e1, h1⟩ := m_pop (X := X) (d := d) h
  obtain ⟨σ2, e2, h2⟩ := m_pop (X := X) (d := d) h1
  rw [f_X13_reckons, q_X13_reckons_0, e1, bI_r, e2, bI_r]
  show ∃ σ', (if c1 = c0 then sm_bV (sm_callM X true (d + 1) 253 [vP (23, 0), vI 0] σ2) sm_tw (fun s => rV s) else sm_bV (sm_callM X true (d + 1) 253 [vP (23, 0), vI 1] σ2) sm_tw (fun s => rV s)) = rV σ' ∧ _
  by_cases q : c1 = c0
  · obtain ⟨σ3, e3, h3⟩ := m_push (X := X) (d := d) (c := 0) h2 hl
    rw [if_pos q, if_pos q, e3, bV_r]
    exact ⟨σ3, rfl, h3⟩
  · obtain ⟨σ3, e3, h3⟩ := m_push (X := X) (d := d) (c := 1) h2 hl
    rw [if_neg q, if_neg q, e3, bV_r]
    exact ⟨σ3, rfl, h3⟩
theorem m_sg15 {c0 c1 : Int32} (h : MG x mi W K nm (c0 :: c1 :: L) H q r nx fu σ) (hl : hM x.1 r + L.length < 1300) : ∃ σ', sm_callM X true (d + 2) 262 [vP (23, 0), vI 15] σ = rV σ' ∧ MG x mi W K nm ((if c1 < c0 then (1 : Int32) else 0) :: L) H q r nx fu σ' := by
  obtain ⟨σ1, e1, h1⟩ := m_pop (X := X) (d := d) h
  obtain ⟨σ2, e2, h2⟩ := m_pop (X := X) (d := d) h1
  rw [f_X13_reckons, q_X13_reckons_0, e1, bI_r, e2, bI_r]
  show ∃ σ', (if c1 < c0 then sm_bV (sm_callM X true (d + 1) 253 [vP (23, 0), vI 1] σ2) sm_tw (fun s => rV s) else sm_bV (sm_callM X true (d + 1) 253 [vP (23, 0), vI 0] σ2) sm_tw (fun s => rV s)) = rV σ' ∧ _
  by_cases q : c1 < c0
  · obtain ⟨σ3, e3, h3⟩ := m_push (X := X) (d := d) (c := 1) h2 hl
    rw [if_pos q, if_pos q, e3, bV_r]
    exact ⟨σ3, rfl, h3⟩
  · obtain ⟨σ3, e3, h3⟩ := m_push (X := X) (d := d) (c := 0) h2 hl
    rw [if_neg q, if_neg q, e3, bV_r]
    exact ⟨σ3, rfl, h3⟩
end
