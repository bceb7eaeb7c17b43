section
/-- what a link's word is -/
def sm_flw (q : Nat × Nat × Nat × Nat × Nat) : Cond := .fieldLink (sm_cn q.1) q.2.1 (bif q.2.2.1 == 5 then "java/lang/String" else sm_cR q.2.2.1) (bif q.2.2.1 == 5 then (bif q.2.2.2.1 == 0 then "value" else "coder") else (sm_cT q.2.2.1 q.2.2.2.1).2.1) (bif q.2.2.1 == 5 then (bif q.2.2.2.1 == 0 then "[B" else "B") else (sm_cT q.2.2.1 q.2.2.2.1).2.2.1)
def sm_fnw (q : Nat × Nat × Nat × Nat × Nat) : Cond := .fieldLinkNest (sm_cn q.1) q.2.1 (sm_cR q.2.2.1) (sm_cT q.2.2.1 q.2.2.2.1).2.1 (sm_cT q.2.2.1 q.2.2.2.1).2.2.1 "FreightYardsModel"
def sm_my (n : Nat) : MethodName := match n with
  | 1000 => arraycopyName
  | 1001 => ⟨"java/lang/IllegalStateException", "<init>", "(Ljava/lang/String;)V"⟩
  | 1002 => objectInit
  | _ => sm_y n
def sm_mlw (q : Nat × Nat × Nat × Nat) : Cond := .methodLink (sm_cn q.1) q.2.1 (sm_my q.2.2.1)
def sm_mnw (q : Nat × Nat × Nat × Nat) : Cond := .methodLinkNest (sm_cn q.1) q.2.1 (sm_my q.2.2.1) (bif q.1 == 13 then "FreightYardsModel" else "FreightYards")
def sm_klw (q : Nat × Nat × Nat × Nat) : Cond := .classLink (sm_cn q.1) q.2.1 (bif q.2.2.1 == 24 then "java/lang/IllegalStateException" else sm_cR q.2.2.1)
def sm_ilw (q : Nat × Nat × Nat × Nat) : Cond := .constant (sm_cn q.1) q.2.1 (Int32.ofNat q.2.2.1)
def sm_llw (q : Nat × Nat × Nat × Nat) : Cond := .constantLong (sm_cn q.1) q.2.1 (sm_lg q.2.2.1)
theorem sm_fl_in : sm_fl.all (fun q => decide (lw_tbl[q.2.2.2.2]? = some (sm_flw q))) = true := by decide +kernel
theorem sm_fn_in : sm_fn.all (fun q => decide (lw_tbl[q.2.2.2.2]? = some (sm_fnw q))) = true := by decide +kernel
theorem sm_ml_in : sm_ml.all (fun q => decide (lw_tbl[q.2.2.2]? = some (sm_mlw q))) = true := by decide +kernel
theorem sm_mn_in : sm_mn.all (fun q => decide (lw_tbl[q.2.2.2]? = some (sm_mnw q))) = true := by decide +kernel
theorem sm_kl_in : sm_kl.all (fun q => decide (lw_tbl[q.2.2.2]? = some (sm_klw q))) = true := by decide +kernel
theorem sm_il_in : sm_il.all (fun q => decide (lw_tbl[q.2.2.2]? = some (sm_ilw q))) = true := by decide +kernel
theorem sm_ll_in : sm_ll.all (fun q => decide (lw_tbl[q.2.2.2]? = some (sm_llw q))) = true := by decide +kernel
theorem sm_ps_in : (List.range 308).all (fun n => decide (lw_tbl[sm_ps.getD n 0]? = some (bif sm_kn n == 1 then Cond.static (sm_y n) else .instanceMethod (sm_y n)))) = true := by decide +kernel
theorem sm_pi_in : (List.range 308).all (fun n => decide (lw_tbl[sm_pi.getD n 0]? = some (Cond.initialized (sm_y n).cls))) = true := by decide +kernel
theorem sm_pn_in : (List.range 308).all (fun n => bif sm_kn n == 0 then decide (lw_tbl[sm_pn.getD n 0]? = some (Cond.selects (sm_y n).cls (sm_y n) (sm_y n))) else true) = true := by decide +kernel
end
