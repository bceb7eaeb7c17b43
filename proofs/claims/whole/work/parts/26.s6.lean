section
variable {E : sm_G} {X : Nat × (Nat → Int32)} {w : Bool} {p : Program} {l : Launch} {e : Env} {R : Room} {s : State} {m : MethodId} {args : Array Value} {below : List Frame} {meth : Method} {c : Code} {mn : Nat} {C : sm_C} {r : sm_O × sm_S} {c0 s0 : Nat} {Q : State → Prop} {n : Nat}
theorem sm_ln_r {a len k : Nat} (h : a = 0 ∨ len = a) (e : a = k + 1) : len = k + 1 := by omega
set_option maxHeartbeats 4000000 in
theorem sm_light (cx : sm_Cx E X p s m args meth c mn) (K : sm_K E X w p l e R s m args below meth c mn C r c0 s0 Q n) {ins : Instr} {len : Nat} {a : Nat × Nat × Nat × Nat} {pc : Nat} (hlt : sm_lt ins = true) (hd : decode (sm_bc mn) pc = .ok (ins, len)) (hlen : sm_ln ins = 0 ∨ len = sm_ln ins) (hok : sm_okA mn ins a pc = true)
    {L S : List sm_V} {σ : sm_S} {hx : sm_S → sm_R} (h : sm_I (sm_ZZ X) w C ins a pc (sm_run (sm_ZZ X) sm_PP w C mn n (pc + len)) (sm_run (sm_ZZ X) sm_PP w C mn n) hx L S σ = some r)
    {H : Heap} {locs : List Loc} {ls : Array Slot} (hH : sm_HR E w σ H) (hL : sm_LR E σ (sm_nl mn) L ls) (hS : sm_SR σ S) (hl : ∀ q ∈ locs, E.1 ≤ q.base) (hc : c0 ≤ sm_cells σ) (hs : s0 ≤ sm_slots σ) :
    W p l e R s m args below meth c H locs (sm_cells σ - c0) (sm_slots σ - s0) Q (F0 m pc ls (sm_st E σ S)) := by
  obtain ⟨hex, hb, hml, hown, hts, hEF, -⟩ := cx
  have ho := hEF.2.2.2.2.2.2.2.2.2.2.2.2
  have hLh := hL.has
  cases ins <;> first | cases hlt | skip
  all_goals first | (exact absurd h (by intro z; cases z)) | skip
  all_goals first | (replace hlen := sm_ln_r (k := 0) hlen rfl; subst hlen) | (replace hlen := sm_ln_r (k := 1) hlen rfl; subst hlen) | (replace hlen := sm_ln_r (k := 2) hlen rfl; subst hlen) | skip
  case iconst k => exact lv_iconst (v := Int32.ofInt k) hex hb hd rfl (K _ _ _ _ _ _ _ h hH hL (hS.cons trivial) hl hc hs)
  case bipush k => exact lv_bipush (v := (Int8.ofInt k).toInt32) hex hb hd rfl (K _ _ _ _ _ _ _ h hH hL (hS.cons trivial) hl hc hs)
  case sipush k => exact lv_sipush (v := (Int16.ofInt k).toInt32) hex hb hd rfl (K _ _ _ _ _ _ _ h hH hL (hS.cons trivial) hl hc hs)
  case lconst k => exact lv_lconst (v := Int64.ofNat k) hex hb hd rfl (K _ _ _ _ _ _ _ h hH hL (hS.cons trivial) hl hc hs)
  case aconst_null => exact lv_null hex hb hd (K _ _ _ _ _ _ _ h hH hL (hS.cons (Or.inl rfl)) hl hc hs)
  case iload i =>
    rcases hv : sm_nth L i with x | x | x | x <;> (simp only [sm_I, hv, sm_ld] at h) <;> try cases h
    exact lv_iload hex hb hd (by have := (hL.2.2 i (by rw [hv]; exact fun z => by cases z)).1; rw [hv] at this; exact this) (K _ _ _ _ _ _ _ h hH hL (hS.cons trivial) hl hc hs)
  case iload_n i =>
    rcases hv : sm_nth L i with x | x | x | x <;> (simp only [sm_I, hv, sm_ld] at h) <;> try cases h
    exact lv_iload_n hex hb hd rfl (by have := (hL.2.2 i (by rw [hv]; exact fun z => by cases z)).1; rw [hv] at this; exact this) (K _ _ _ _ _ _ _ h hH hL (hS.cons trivial) hl hc hs)
  case lload i =>
    rcases hv : sm_nth L i with x | x | x | x <;> (simp only [sm_I, hv, sm_ld] at h) <;> try cases h
    exact lv_lload hex hb hd (by have := (hL.2.2 i (by rw [hv]; exact fun z => by cases z)).1; rw [hv] at this; exact this) (K _ _ _ _ _ _ _ h hH hL (hS.cons trivial) hl hc hs)
  case lload_n i =>
    rcases hv : sm_nth L i with x | x | x | x <;> (simp only [sm_I, hv, sm_ld] at h) <;> try cases h
    exact lv_lload_n hex hb hd rfl (by have := (hL.2.2 i (by rw [hv]; exact fun z => by cases z)).1; rw [hv] at this; exact this) (K _ _ _ _ _ _ _ h hH hL (hS.cons trivial) hl hc hs)
  case aload i =>
    rcases hv : sm_nth L i with x | x | x | x <;> (simp only [sm_I, hv, sm_ld] at h) <;> try cases h
    have hq := hL.2.2 i (by rw [hv]; exact fun z => by cases z)
    rw [hv] at hq
    have g := K _ _ _ _ _ _ _ h hH hL (hS.cons hq.2) hl hc hs
    obtain ⟨q1, q2⟩ := hq
    have q1 : ls[i]? = some (.val (va_rf (sm_rp E (sm_ad σ) x))) := q1
    have g : W p l e R s m args below meth c H locs (sm_cells σ - c0) (sm_slots σ - s0) Q (F0 m (pc + 2) ls (va_rf (sm_rp E (sm_ad σ) x) :: sm_st E σ S)) := g
    cases hr : sm_rp E (sm_ad σ) x with
    | none => rw [hr] at q1 g; exact lv_aloadN hex hb hd q1 g
    | some y => rw [hr] at q1 g; exact lv_aload hex hb hd q1 g
  case aload_n i =>
    rcases hv : sm_nth L i with x | x | x | x <;> (simp only [sm_I, hv, sm_ld] at h) <;> try cases h
    have hq := hL.2.2 i (by rw [hv]; exact fun z => by cases z)
    rw [hv] at hq
    have g := K _ _ _ _ _ _ _ h hH hL (hS.cons hq.2) hl hc hs
    obtain ⟨q1, q2⟩ := hq
    have q1 : ls[(i : Nat)]? = some (.val (va_rf (sm_rp E (sm_ad σ) x))) := q1
    have g : W p l e R s m args below meth c H locs (sm_cells σ - c0) (sm_slots σ - s0) Q (F0 m (pc + 1) ls (va_rf (sm_rp E (sm_ad σ) x) :: sm_st E σ S)) := g
    cases hr : sm_rp E (sm_ad σ) x with
    | none => rw [hr] at q1 g; exact lv_aload_nN hex hb hd rfl q1 g
    | some y => rw [hr] at q1 g; exact lv_aload_n hex hb hd rfl q1 g
  case istore i =>
    rcases sm_p1_s S with q | ⟨x, S, rfl⟩
    · exact absurd h (by rw [show sm_I (sm_ZZ X) w C (.istore i) a pc _ _ hx L S σ = none from q _]; exact fun z => by cases z)
    · exact lv_istore hex hb hd hLh (of_decide_eq_true hok) rfl fun ls' h' => K _ _ _ _ _ _ _ h hH (hL.st1 ho (v := vI x) trivial h') hS.tail hl hc hs
  case istore_n i =>
    rcases sm_p1_s S with q | ⟨x, S, rfl⟩
    · exact absurd h (by rw [show sm_I (sm_ZZ X) w C (.istore_n i) a pc _ _ hx L S σ = none from q _]; exact fun z => by cases z)
    · exact lv_istore_n hex hb hd rfl hLh (of_decide_eq_true hok) rfl fun ls' h' => K _ _ _ _ _ _ _ h hH (hL.st1 ho (v := vI x) trivial h') hS.tail hl hc hs
  case lstore i =>
    rcases sm_q1_s S with q | ⟨x, S, rfl⟩
    · exact absurd h (by rw [show sm_I (sm_ZZ X) w C (.lstore i) a pc _ _ hx L S σ = none from q _]; exact fun z => by cases z)
    · exact lv_lstore hex hb hd hLh (of_decide_eq_true hok) rfl fun ls' h' => K _ _ _ _ _ _ _ h hH (hL.st2 ho h') hS.tail hl hc hs
  case lstore_n i =>
    rcases sm_q1_s S with q | ⟨x, S, rfl⟩
    · exact absurd h (by rw [show sm_I (sm_ZZ X) w C (.lstore_n i) a pc _ _ hx L S σ = none from q _]; exact fun z => by cases z)
    · exact lv_lstore_n hex hb hd rfl hLh (of_decide_eq_true hok) rfl fun ls' h' => K _ _ _ _ _ _ _ h hH (hL.st2 ho h') hS.tail hl hc hs
  case astore i =>
    rcases sm_r1_s S with q | ⟨x, S, rfl⟩
    · exact absurd h (by rw [show sm_I (sm_ZZ X) w C (.astore i) a pc _ _ hx L S σ = none from q _]; exact fun z => by cases z)
    · have hv : sm_okv (sm_cnt σ) (vP x) := hS _ List.mem_cons_self
      have g := fun (ls' : Array Slot) (h' : lv_has ls' (sm_nl mn) ((i, va_rf (sm_rp E (sm_ad σ) x)) :: (sm_pl E (sm_ad σ) 0 L).filter (fun q => !(q.1 == i) && !(q.1 + 1 == i && q.2.category == 2)))) => K _ _ _ _ _ _ _ h hH (hL.st1 ho (v := vP x) hv h') hS.tail hl hc hs
      show W p l e R s m args below meth c H locs _ _ Q (F0 m pc ls (va_rf (sm_rp E (sm_ad σ) x) :: sm_st E σ S))
      cases hr : sm_rp E (sm_ad σ) x with
      | none => rw [hr] at g; exact lv_astoreN hex hb hd hLh (of_decide_eq_true hok) rfl g
      | some y => rw [hr] at g; exact lv_astore hex hb hd hLh (of_decide_eq_true hok) rfl g
  case astore_n i =>
    rcases sm_r1_s S with q | ⟨x, S, rfl⟩
    · exact absurd h (by rw [show sm_I (sm_ZZ X) w C (.astore_n i) a pc _ _ hx L S σ = none from q _]; exact fun z => by cases z)
    · have hv : sm_okv (sm_cnt σ) (vP x) := hS _ List.mem_cons_self
      have g := fun (ls' : Array Slot) (h' : lv_has ls' (sm_nl mn) (((i : Nat), va_rf (sm_rp E (sm_ad σ) x)) :: (sm_pl E (sm_ad σ) 0 L).filter (fun q => !(q.1 == (i : Nat)) && !(q.1 + 1 == (i : Nat) && q.2.category == 2)))) => K _ _ _ _ _ _ _ h hH (hL.st1 ho (v := vP x) hv h') hS.tail hl hc hs
      show W p l e R s m args below meth c H locs _ _ Q (F0 m pc ls (va_rf (sm_rp E (sm_ad σ) x) :: sm_st E σ S))
      cases hr : sm_rp E (sm_ad σ) x with
      | none => rw [hr] at g; exact lv_astore_nN hex hb hd rfl hLh (of_decide_eq_true hok) rfl g
      | some y => rw [hr] at g; exact lv_astore_n hex hb hd rfl hLh (of_decide_eq_true hok) rfl g
  case iinc i k =>
    rcases hv : sm_nth L i with x | x | x | x <;> (simp only [sm_I, hv, sm_ld] at h) <;> try cases h
    have hm := sm_pl_mem (E := E) (sm_ad σ) L 0 i (by rw [hv]; exact fun z => by cases z)
    rw [hv, Nat.zero_add] at hm
    obtain ⟨j, hj⟩ := List.getElem?_of_mem hm
    exact lv_iinc hex hb hd hLh hj rfl (of_decide_eq_true hok) rfl fun ls' h' => K _ _ _ _ _ _ _ h hH (hL.st1 ho (v := vI (x + Int32.ofInt k)) trivial h') hS hl hc hs
  case goto o => exact lv_goto hex hb hd (sm_tg_eq (of_decide_eq_true hok)) (K _ _ _ _ _ _ _ h hH hL hS hl hc hs)
  case ifCond cd o =>
    rcases sm_p1_s S with q | ⟨x, S, rfl⟩
    · exact absurd h (by rw [show sm_I (sm_ZZ X) w C (.ifCond cd o) a pc _ _ hx L S σ = none from q _]; exact fun z => by cases z)
    · have ht := sm_tg_eq (of_decide_eq_true hok)
      cases cd
      · exact lv_if_eq hex hb hd ht (fun z => K _ _ _ _ _ _ _ ((if_pos z).symm.trans h) hH hL hS.tail hl hc hs) (fun z => K _ _ _ _ _ _ _ ((if_neg z).symm.trans h) hH hL hS.tail hl hc hs)
      · exact lv_if_ne hex hb hd ht (fun z => K _ _ _ _ _ _ _ ((if_neg z).symm.trans h) hH hL hS.tail hl hc hs) (fun z => K _ _ _ _ _ _ _ ((if_pos (by simpa using z)).symm.trans h) hH hL hS.tail hl hc hs)
      · exact lv_if_lt hex hb hd ht (fun z => K _ _ _ _ _ _ _ ((if_pos z).symm.trans h) hH hL hS.tail hl hc hs) (fun z => K _ _ _ _ _ _ _ ((if_neg z).symm.trans h) hH hL hS.tail hl hc hs)
      · exact lv_if_ge hex hb hd ht (fun z => K _ _ _ _ _ _ _ ((if_neg (by simpa using z)).symm.trans h) hH hL hS.tail hl hc hs) (fun z => K _ _ _ _ _ _ _ ((if_pos (by simpa using z)).symm.trans h) hH hL hS.tail hl hc hs)
      · exact lv_if_gt hex hb hd ht (fun z => K _ _ _ _ _ _ _ ((if_pos (by simpa using z)).symm.trans h) hH hL hS.tail hl hc hs) (fun z => K _ _ _ _ _ _ _ ((if_neg (by simpa using z)).symm.trans h) hH hL hS.tail hl hc hs)
      · exact lv_if_le hex hb hd ht (fun z => K _ _ _ _ _ _ _ ((if_neg (by simpa using z)).symm.trans h) hH hL hS.tail hl hc hs) (fun z => K _ _ _ _ _ _ _ ((if_pos (by simpa using z)).symm.trans h) hH hL hS.tail hl hc hs)
  case if_icmp cd o =>
    rcases sm_p2_s S with q | ⟨x, y, S, rfl⟩
    · exact absurd h (by rw [show sm_I (sm_ZZ X) w C (.if_icmp cd o) a pc _ _ hx L S σ = none from q _]; exact fun z => by cases z)
    · have ht := sm_tg_eq (of_decide_eq_true hok)
      cases cd
      · exact lv_icmp_eq hex hb hd ht (fun z => K _ _ _ _ _ _ _ ((if_pos z).symm.trans h) hH hL hS.tail.tail hl hc hs) (fun z => K _ _ _ _ _ _ _ ((if_neg z).symm.trans h) hH hL hS.tail.tail hl hc hs)
      · exact lv_icmp_ne hex hb hd ht (fun z => K _ _ _ _ _ _ _ ((if_neg z).symm.trans h) hH hL hS.tail.tail hl hc hs) (fun z => K _ _ _ _ _ _ _ ((if_pos (by simpa using z)).symm.trans h) hH hL hS.tail.tail hl hc hs)
      · exact lv_icmp_lt hex hb hd ht (fun z => K _ _ _ _ _ _ _ ((if_pos z).symm.trans h) hH hL hS.tail.tail hl hc hs) (fun z => K _ _ _ _ _ _ _ ((if_neg z).symm.trans h) hH hL hS.tail.tail hl hc hs)
      · exact lv_icmp_ge hex hb hd ht (fun z => K _ _ _ _ _ _ _ ((if_neg (by simpa using z)).symm.trans h) hH hL hS.tail.tail hl hc hs) (fun z => K _ _ _ _ _ _ _ ((if_pos (by simpa using z)).symm.trans h) hH hL hS.tail.tail hl hc hs)
      · exact lv_icmp_gt hex hb hd ht (fun z => K _ _ _ _ _ _ _ ((if_pos (by simpa using z)).symm.trans h) hH hL hS.tail.tail hl hc hs) (fun z => K _ _ _ _ _ _ _ ((if_neg (by simpa using z)).symm.trans h) hH hL hS.tail.tail hl hc hs)
      · exact lv_icmp_le hex hb hd ht (fun z => K _ _ _ _ _ _ _ ((if_neg (by simpa using z)).symm.trans h) hH hL hS.tail.tail hl hc hs) (fun z => K _ _ _ _ _ _ _ ((if_pos (by simpa using z)).symm.trans h) hH hL hS.tail.tail hl hc hs)
  case if_acmp cd o =>
    rcases sm_r2_s S with q | ⟨x, y, S, rfl⟩
    · exact absurd h (by rw [show sm_I (sm_ZZ X) w C (.if_acmp cd o) a pc _ _ hx L S σ = none from q _]; exact fun z => by cases z)
    · have ht := sm_tg_eq (of_decide_eq_true hok)
      have hy : sm_okp (sm_cnt σ) y := hS (vP y) List.mem_cons_self
      have hxx : sm_okp (sm_cnt σ) x := hS (vP x) (List.mem_cons_of_mem _ List.mem_cons_self)
      show W p l e R s m args below meth c H locs _ _ Q (F0 m pc ls (va_rf (sm_rp E (sm_ad σ) y) :: va_rf (sm_rp E (sm_ad σ) x) :: sm_st E σ S))
      cases cd
      · by_cases hxy : x = y
        · subst hxy
          exact lv_acmp_eq hex hb hd ht (fun _ => K _ _ _ _ _ _ _ ((if_pos rfl).symm.trans h) hH hL hS.tail.tail hl hc hs) (fun z => absurd rfl z)
        · have h1 := (if_neg hxy).symm.trans h
          by_cases hg : (x.1 = 0 ∨ 10 ≤ x.1) ∧ (y.1 = 0 ∨ 10 ≤ y.1)
          · exact lv_acmp_eq hex hb hd ht (fun z => absurd (sm_rp_inj hH hxx hy hg.1 hg.2 z) hxy) (fun _ => K _ _ _ _ _ _ _ ((if_pos hg).symm.trans h1) hH hL hS.tail.tail hl hc hs)
          · exact absurd ((if_neg hg).symm.trans h1) (fun z => by cases z)
      · by_cases hxy : x = y
        · subst hxy
          exact lv_acmp_ne hex hb hd ht (fun z => absurd rfl z) (fun _ => K _ _ _ _ _ _ _ ((if_pos rfl).symm.trans h) hH hL hS.tail.tail hl hc hs)
        · have h1 := (if_neg hxy).symm.trans h
          by_cases hg : (x.1 = 0 ∨ 10 ≤ x.1) ∧ (y.1 = 0 ∨ 10 ≤ y.1)
          · exact lv_acmp_ne hex hb hd ht (fun _ => K _ _ _ _ _ _ _ ((if_pos hg).symm.trans h1) hH hL hS.tail.tail hl hc hs) (fun z => absurd (sm_rp_inj hH hxx hy hg.1 hg.2 z) hxy)
          · exact absurd ((if_neg hg).symm.trans h1) (fun z => by cases z)
  case ifnull o =>
    rcases sm_r1_s S with q | ⟨x, S, rfl⟩
    · exact absurd h (by rw [show sm_I (sm_ZZ X) w C (.ifnull o) a pc _ _ hx L S σ = none from q _]; exact fun z => by cases z)
    · have ht := sm_tg_eq (of_decide_eq_true hok)
      show W p l e R s m args below meth c H locs _ _ Q (F0 m pc ls (va_rf (sm_rp E (sm_ad σ) x) :: sm_st E σ S))
      by_cases hz : x.1 = 0
      · rw [sm_rp_none.mpr hz]
        exact lv_ifnullN hex hb hd ht (K _ _ _ _ _ _ _ ((if_pos hz).symm.trans h) hH hL hS.tail hl hc hs)
      · cases hr : sm_rp E (sm_ad σ) x with
        | none => exact absurd (sm_rp_none.mp hr) hz
        | some y => exact lv_ifnull hex hb hd (K _ _ _ _ _ _ _ ((if_neg hz).symm.trans h) hH hL hS.tail hl hc hs)
  case ifnonnull o =>
    rcases sm_r1_s S with q | ⟨x, S, rfl⟩
    · exact absurd h (by rw [show sm_I (sm_ZZ X) w C (.ifnonnull o) a pc _ _ hx L S σ = none from q _]; exact fun z => by cases z)
    · have ht := sm_tg_eq (of_decide_eq_true hok)
      show W p l e R s m args below meth c H locs _ _ Q (F0 m pc ls (va_rf (sm_rp E (sm_ad σ) x) :: sm_st E σ S))
      by_cases hz : x.1 = 0
      · rw [sm_rp_none.mpr hz]
        exact lv_ifnonnullN hex hb hd (K _ _ _ _ _ _ _ ((if_pos hz).symm.trans h) hH hL hS.tail hl hc hs)
      · cases hr : sm_rp E (sm_ad σ) x with
        | none => exact absurd (sm_rp_none.mp hr) hz
        | some y => exact lv_ifnonnull hex hb hd ht (K _ _ _ _ _ _ _ ((if_neg hz).symm.trans h) hH hL hS.tail hl hc hs)
  case tableswitch d lo hi os =>
    rcases sm_p1_s S with q | ⟨x, S, rfl⟩
    · exact absurd h (by rw [show sm_I (sm_ZZ X) w C (.tableswitch d lo hi os) a pc _ _ hx L S σ = none from q _]; exact fun z => by cases z)
    · simp only [sm_okA, Bool.and_eq_true, decide_eq_true_eq] at hok
      obtain ⟨g1, g2, g3, g4, g5⟩ := hok
      have hsz : (os.size : Int) = (os.toList.length : Int) := by simp
      obtain ⟨u1, u2⟩ := sm_sw_table (x := x) (jp := fun t => sm_run (sm_ZZ X) sm_PP w C mn n t L S σ) (pc := pc) (d := sm_tg pc d) os.toList lo g4 (by rw [← hsz]; exact g5)
      rw [← hsz] at u1 u2
      by_cases hz : x.toInt < lo ∨ hi < x.toInt
      · exact lv_tableOut hex hb hd hz (sm_tg_eq g1) (K _ _ _ _ _ _ _ ((u1 (by omega)).symm.trans h) hH hL hS.tail hl hc hs)
      · obtain ⟨off, k1, k2⟩ := u2 (by omega) (by omega)
        have k1' : os[(x.toInt - lo).toNat]? = some off := by rw [← k1]; simp
        have hoff : 0 ≤ (pc : Int) + off := by
          have := List.all_eq_true.mp g2 off (List.mem_of_getElem? k1)
          exact of_decide_eq_true this
        exact lv_tableIn hex hb hd (by omega) (by omega) k1' (sm_tg_eq hoff) (K _ _ _ _ _ _ _ (k2.symm.trans h) hH hL hS.tail hl hc hs)
  case lookupswitch d ps =>
    rcases sm_p1_s S with q | ⟨x, S, rfl⟩
    · exact absurd h (by rw [show sm_I (sm_ZZ X) w C (.lookupswitch d ps) a pc _ _ hx L S σ = none from q _]; exact fun z => by cases z)
    · have hok' : (decide (0 ≤ (pc : Int) + d) && (ps.toList.all (fun q => decide (0 ≤ (pc : Int) + q.2) && sm_inR q.1) && ((ps.toList.zip (ps.toList.drop 1)).all (fun (a, next) => a.1 < next.1)))) = true := hok
      rw [Bool.and_eq_true, Bool.and_eq_true] at hok'
      obtain ⟨g1, g2, g3⟩ := hok'
      obtain ⟨off, k1, k2, k3⟩ := sm_sw_lookup (x := x) (jp := fun t => sm_run (sm_ZZ X) sm_PP w C mn n t L S σ) (pc := pc) (d := sm_tg pc d) ps.toList g2 d (of_decide_eq_true g1) rfl
      exact lv_lookup hex hb hd g3 k1 (sm_tg_eq k2) (K _ _ _ _ _ _ _ (k3.symm.trans h) hH hL hS.tail hl hc hs)
  case idiv =>
    rcases sm_p2_s S with q | ⟨x, y, S, rfl⟩
    · exact absurd h (by rw [show sm_I (sm_ZZ X) w C .idiv a pc _ _ hx L S σ = none from q _]; exact fun z => by cases z)
    · by_cases hz : y = 0
      · exact absurd ((if_pos hz).symm.trans h) (fun z => by cases z)
      · exact lv_idiv hex hb hd hz (K _ _ _ _ _ _ _ ((if_neg hz).symm.trans h) hH hL (hS.tail.tail.cons trivial) hl hc hs)
  case irem =>
    rcases sm_p2_s S with q | ⟨x, y, S, rfl⟩
    · exact absurd h (by rw [show sm_I (sm_ZZ X) w C .irem a pc _ _ hx L S σ = none from q _]; exact fun z => by cases z)
    · by_cases hz : y = 0
      · exact absurd ((if_pos hz).symm.trans h) (fun z => by cases z)
      · exact lv_irem hex hb hd hz (K _ _ _ _ _ _ _ ((if_neg hz).symm.trans h) hH hL (hS.tail.tail.cons trivial) hl hc hs)
  case lshl =>
    rcases sm_p1_s S with q | ⟨y, S, rfl⟩
    · exact absurd h (by rw [show sm_I (sm_ZZ X) w C .lshl a pc _ _ hx L S σ = none from q _]; exact fun z => by cases z)
    · rcases sm_q1_s S with q | ⟨x, S, rfl⟩
      · exact absurd h (by rw [show sm_I (sm_ZZ X) w C .lshl a pc _ _ hx L (vI y :: S) σ = none from q _]; exact fun z => by cases z)
      · exact lv_lshl hex hb hd rfl (K _ _ _ _ _ _ _ h hH hL (hS.tail.tail.cons trivial) hl hc hs)
  case dup =>
    rcases S with _ | ⟨v, S⟩
    · cases h
    · by_cases hz : sm_cat1 v = 1
      · have hv := hS v List.mem_cons_self
        have hcat : (sm_rv E (sm_ad σ) v).category = 1 := sm_cat_rv (by rcases v with x | x | x | x <;> first | rfl | cases hz) ho _
        exact lv_dup hex hb hd hcat (K _ _ _ _ _ _ _ ((if_pos hz).symm.trans h) hH hL (hS.cons hv) hl hc hs)
      · exact absurd ((if_neg hz).symm.trans h) (fun z => by cases z)
  case pop =>
    rcases S with _ | ⟨v, S⟩
    · cases h
    · by_cases hz : sm_cat1 v = 1
      · have hcat : (sm_rv E (sm_ad σ) v).category = 1 := sm_cat_rv (by rcases v with x | x | x | x <;> first | rfl | cases hz) ho _
        exact lv_pop hex hb hd hcat (K _ _ _ _ _ _ _ ((if_pos hz).symm.trans h) hH hL hS.tail hl hc hs)
      · exact absurd ((if_neg hz).symm.trans h) (fun z => by cases z)
  case dup2 =>
    rcases S with _ | ⟨u, _ | ⟨v, S⟩⟩
    · cases h
    · cases h
    · by_cases hz : sm_cat1 u = 1 ∧ sm_cat1 v = 1
      · have h1 : (sm_rv E (sm_ad σ) u).category = 1 := sm_cat_rv (by rcases u with x | x | x | x <;> first | rfl | cases hz.1) ho _
        have h2 : (sm_rv E (sm_ad σ) v).category = 1 := sm_cat_rv (by rcases v with x | x | x | x <;> first | rfl | cases hz.2) ho _
        have hu := hS u List.mem_cons_self
        have hv := hS v (List.mem_cons_of_mem _ List.mem_cons_self)
        exact lv_dup2_11 hex hb hd h1 h2 (K _ _ _ _ _ _ _ ((if_pos hz).symm.trans h) hH hL ((hS.cons hv).cons hu) hl hc hs)
      · exact absurd ((if_neg hz).symm.trans h) (fun z => by cases z)
  case iadd =>
    rcases sm_p2_s S with q | ⟨x, y, S, rfl⟩
    · exact absurd h (by rw [show sm_I (sm_ZZ X) w C .iadd a pc _ _ hx L S σ = none from q _]; exact fun z => by cases z)
    · exact lv_iadd hex hb hd (K _ _ _ _ _ _ _ h hH hL (hS.tail.tail.cons trivial) hl hc hs)
  case isub =>
    rcases sm_p2_s S with q | ⟨x, y, S, rfl⟩
    · exact absurd h (by rw [show sm_I (sm_ZZ X) w C .isub a pc _ _ hx L S σ = none from q _]; exact fun z => by cases z)
    · exact lv_isub hex hb hd (K _ _ _ _ _ _ _ h hH hL (hS.tail.tail.cons trivial) hl hc hs)
  case imul =>
    rcases sm_p2_s S with q | ⟨x, y, S, rfl⟩
    · exact absurd h (by rw [show sm_I (sm_ZZ X) w C .imul a pc _ _ hx L S σ = none from q _]; exact fun z => by cases z)
    · exact lv_imul hex hb hd (K _ _ _ _ _ _ _ h hH hL (hS.tail.tail.cons trivial) hl hc hs)
  case iand =>
    rcases sm_p2_s S with q | ⟨x, y, S, rfl⟩
    · exact absurd h (by rw [show sm_I (sm_ZZ X) w C .iand a pc _ _ hx L S σ = none from q _]; exact fun z => by cases z)
    · exact lv_iand hex hb hd (K _ _ _ _ _ _ _ h hH hL (hS.tail.tail.cons trivial) hl hc hs)
  case ishr =>
    rcases sm_p2_s S with q | ⟨x, y, S, rfl⟩
    · exact absurd h (by rw [show sm_I (sm_ZZ X) w C .ishr a pc _ _ hx L S σ = none from q _]; exact fun z => by cases z)
    · exact lv_ishr hex hb hd (K _ _ _ _ _ _ _ h hH hL (hS.tail.tail.cons trivial) hl hc hs)
  case ladd =>
    rcases sm_q2_s S with q | ⟨x, y, S, rfl⟩
    · exact absurd h (by rw [show sm_I (sm_ZZ X) w C .ladd a pc _ _ hx L S σ = none from q _]; exact fun z => by cases z)
    · exact lv_ladd hex hb hd (K _ _ _ _ _ _ _ h hH hL (hS.tail.tail.cons trivial) hl hc hs)
  case lsub =>
    rcases sm_q2_s S with q | ⟨x, y, S, rfl⟩
    · exact absurd h (by rw [show sm_I (sm_ZZ X) w C .lsub a pc _ _ hx L S σ = none from q _]; exact fun z => by cases z)
    · exact lv_lsub hex hb hd (K _ _ _ _ _ _ _ h hH hL (hS.tail.tail.cons trivial) hl hc hs)
  case lmul =>
    rcases sm_q2_s S with q | ⟨x, y, S, rfl⟩
    · exact absurd h (by rw [show sm_I (sm_ZZ X) w C .lmul a pc _ _ hx L S σ = none from q _]; exact fun z => by cases z)
    · exact lv_lmul hex hb hd (K _ _ _ _ _ _ _ h hH hL (hS.tail.tail.cons trivial) hl hc hs)
  case lor =>
    rcases sm_q2_s S with q | ⟨x, y, S, rfl⟩
    · exact absurd h (by rw [show sm_I (sm_ZZ X) w C .lor a pc _ _ hx L S σ = none from q _]; exact fun z => by cases z)
    · exact lv_lor hex hb hd (K _ _ _ _ _ _ _ h hH hL (hS.tail.tail.cons trivial) hl hc hs)
  case lcmp =>
    rcases sm_q2_s S with q | ⟨x, y, S, rfl⟩
    · exact absurd h (by rw [show sm_I (sm_ZZ X) w C .lcmp a pc _ _ hx L S σ = none from q _]; exact fun z => by cases z)
    · exact W.lcmp hex hb hd (K _ _ _ _ _ _ _ h hH hL (hS.tail.tail.cons trivial) hl hc hs)
  case ineg =>
    rcases sm_p1_s S with q | ⟨x, S, rfl⟩
    · exact absurd h (by rw [show sm_I (sm_ZZ X) w C .ineg a pc _ _ hx L S σ = none from q _]; exact fun z => by cases z)
    · exact lv_ineg hex hb hd (K _ _ _ _ _ _ _ h hH hL (hS.tail.cons trivial) hl hc hs)
  case i2l =>
    rcases sm_p1_s S with q | ⟨x, S, rfl⟩
    · exact absurd h (by rw [show sm_I (sm_ZZ X) w C .i2l a pc _ _ hx L S σ = none from q _]; exact fun z => by cases z)
    · exact lv_i2l hex hb hd rfl (K _ _ _ _ _ _ _ h hH hL (hS.tail.cons trivial) hl hc hs)
  case i2b =>
    rcases sm_p1_s S with q | ⟨x, S, rfl⟩
    · exact absurd h (by rw [show sm_I (sm_ZZ X) w C .i2b a pc _ _ hx L S σ = none from q _]; exact fun z => by cases z)
    · exact lv_i2b hex hb hd rfl (K _ _ _ _ _ _ _ h hH hL (hS.tail.cons trivial) hl hc hs)
  case i2c =>
    rcases sm_p1_s S with q | ⟨x, S, rfl⟩
    · exact absurd h (by rw [show sm_I (sm_ZZ X) w C .i2c a pc _ _ hx L S σ = none from q _]; exact fun z => by cases z)
    · exact lv_i2c hex hb hd rfl (K _ _ _ _ _ _ _ h hH hL (hS.tail.cons trivial) hl hc hs)
  case lneg =>
    rcases sm_q1_s S with q | ⟨x, S, rfl⟩
    · exact absurd h (by rw [show sm_I (sm_ZZ X) w C .lneg a pc _ _ hx L S σ = none from q _]; exact fun z => by cases z)
    · exact lv_lneg hex hb hd (K _ _ _ _ _ _ _ h hH hL (hS.tail.cons trivial) hl hc hs)
  case l2i =>
    rcases sm_q1_s S with q | ⟨x, S, rfl⟩
    · exact absurd h (by rw [show sm_I (sm_ZZ X) w C .l2i a pc _ _ hx L S σ = none from q _]; exact fun z => by cases z)
    · exact lv_l2i hex hb hd rfl (K _ _ _ _ _ _ _ h hH hL (hS.tail.cons trivial) hl hc hs)
end
