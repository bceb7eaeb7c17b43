section
variable {X : Nat × (Nat → Int32)} {d : Nat} {s σ : sm_S} {f pl : Int32} {ci : Nat} {O : Nat → Nat → Nat → Int32}
theorem ft_readTypeUpToLast_0_s6 {o1 : Int64} {s6 : sm_S} (F : FS f pl ci O s6) : FI f pl ci O (some (some (some (vI (18 + (Int64.toInt32 o1)))), s6)) := by
  exact fi_ret F
theorem ft_readTypeUpToLast_0_s4 {o1 : Int64} {s4 : sm_S} (F : FS f pl ci O s4) : FI f pl ci O (if (s4.1 15 0 6) = 93 then (some (some (some (vI (18 + (Int64.toInt32 o1)))), s4)) else (sm_bV (sm_callM X true (d + 1) 83 [vP (15, 0), vI 1, vI (s4.1 15 0 7)] s4) sm_tw fun s6 => some (some (some (vI (18 + (Int64.toInt32 o1)))), s6))) := by
  refine ifF (FS.kn F (by decide)) ?_
  exact bindV (fs_83 F) (fun _ F => ft_readTypeUpToLast_0_s6 F)
theorem ft_readTypeUpToLast_0_s2 {o1 : Int64} {s2 : sm_S} (F : FS f pl ci O s2) : FI f pl ci O (sm_bV (sm_callM X true (d + 1) 84 [vP (15, 0)] s2) sm_tw fun s4 => if (s4.1 15 0 6) = 93 then (some (some (some (vI (18 + (Int64.toInt32 o1)))), s4)) else (sm_bV (sm_callM X true (d + 1) 83 [vP (15, 0), vI 1, vI (s4.1 15 0 7)] s4) sm_tw fun s6 => some (some (some (vI (18 + (Int64.toInt32 o1)))), s6))) := by
  exact bindV (fs_84 F) (fun _ F => ft_readTypeUpToLast_0_s4 F)
theorem ft_readNewName_0_s6 {x1 : Int32} {x2 : Int32} {s6 : sm_S} (F : FS f pl ci O s6) : FI f pl ci O (sm_go (sm_ZZ X) sm_PP true (sm_callM X true (d + 2)) 92 70 [vP (15, 0), vI x1, vI x2, vU] [] s6) := by
  exact fg_readNewName_70 F
theorem ft_readNewName_0_s8 {x1 : Int32} {x2 : Int32} {s8 : sm_S} (F : FS f pl ci O s8) : FI f pl ci O (sm_go (sm_ZZ X) sm_PP true (sm_callM X true (d + 2)) 92 70 [vP (15, 0), vI x1, vI x2, vU] [] s8) := by
  exact fg_readNewName_70 F
theorem ft_readNewName_0_s10 {x1 : Int32} {x2 : Int32} {s10 : sm_S} (F : FS f pl ci O s10) : FI f pl ci O (sm_go (sm_ZZ X) sm_PP true (sm_callM X true (d + 2)) 92 70 [vP (15, 0), vI x1, vI x2, vU] [] s10) := by
  exact fg_readNewName_70 F
theorem ft_readProcName_0_s6 {s6 : sm_S} (F : FS f pl ci O s6) : FV f pl ci O (some (some none, s6)) := by
  exact fv_ret F
theorem ft_readProcName_0_s11 {s11 : sm_S} (F : FS f pl ci O s11) : FV f pl ci O (some (some none, s11)) := by
  exact fv_ret F
theorem ft_readProcName_0_s13 {s13 : sm_S} (F : FS f pl ci O s13) : FV f pl ci O (some (some none, s13)) := by
  exact fv_ret F
theorem ft_readProcName_0_s15 {s15 : sm_S} (F : FS f pl ci O s15) : FV f pl ci O (some (some none, s15)) := by
  exact fv_ret F
theorem ft_readHead_39_s4 {x1 : Int32} {s4 : sm_S} (F : FS f pl ci O s4) : FV f pl ci O (sm_go (sm_ZZ X) sm_PP true (sm_callM X true (d + 4)) 88 39 [vP (15, 0), vI (x1 + 1)] [] s4) := by
  exact fg_readHead_39 F
theorem ft_readHead_39_s2 {x1 : Int32} {s2 : sm_S} (F : FS f pl ci O s2) : FV f pl ci O (sm_bV (sm_callM X true (d + 4) 91 [vP (15, 0)] s2) sm_tw fun s4 => sm_go (sm_ZZ X) sm_PP true (sm_callM X true (d + 4)) 88 39 [vP (15, 0), vI (x1 + 1)] [] s4) := by
  exact bindV (fs_91 F) (fun _ F => ft_readHead_39_s4 F)
theorem ft_readHead_69_s6 {s4 : sm_S} {y5 : Int32} {s6 : sm_S} (hq : s4.2.2.1 15 0 3 = (10, ci)) (F : FS f pl ci O s6) : FV f pl ci O (if (s4.2.2.1 15 0 3).1 = 10 then (sm_bV (sm_callM X true (d + 3) 7 [vP (s4.2.2.1 15 0 3), vI (s4.1 15 0 4), vI y5] s6) sm_tw fun s8 => some (some none, s8)) else (none)) := by
  rw [if_pos (by rw [hq]), hq, ← F.1.2.2.2.2.2.2.2]
  exact bindV (fs_7 F) (fun _ F => fv_ret F)
theorem ft_readHead_69_s4 {s4 : sm_S} (F : FS f pl ci O s4) : FV f pl ci O (sm_bI (sm_callM X true (d + 3) 93 [vP (15, 0)] s4) sm_tw fun y5 s6 => if (s4.2.2.1 15 0 3).1 = 10 then (sm_bV (sm_callM X true (d + 3) 7 [vP (s4.2.2.1 15 0 3), vI (s4.1 15 0 4), vI y5] s6) sm_tw fun s8 => some (some none, s8)) else (none)) := by
  exact bindI (fs_93 F) (fun _ _ F2 => ft_readHead_69_s6 F.1.2.2.2.2.2.2.2 F2)
theorem ft_readFirst_0_s2 {y1 : Int32} {s2 : sm_S} (F : FS f pl ci O s2) : FI f pl ci O (some (some (some (vI y1)), s2)) := by
  exact fi_ret F
theorem ft_readFirst_0_s4 {y3 : Int32} {s4 : sm_S} (F : FS f pl ci O s4) : FI f pl ci O (some (some (some (vI y3)), s4)) := by
  exact fi_ret F
theorem ft_readFirst_0_s6 {y5 : Int32} {s6 : sm_S} (F : FS f pl ci O s6) : FI f pl ci O (some (some (some (vI y5)), s6)) := by
  exact fi_ret F
theorem ft_readFirst_0_s12 {y9 : Int32} {s12 : sm_S} (F : FS f pl ci O s12) : FI f pl ci O (some (some (some (vI y9)), (sI s12 15 0 10 4))) := by
  exact fi_ret (FS.wr F (by decide) (by decide) (by decide) (by decide))
theorem ft_readFirst_0_s10 {y9 : Int32} {s10 : sm_S} (F : FS f pl ci O s10) : FI f pl ci O (sm_bV (sm_callM X true (d + 6) 86 [vP (15, 0), vI 41] s10) sm_tw fun s12 => some (some (some (vI y9)), (sI s12 15 0 10 4))) := by
  exact bindV (fs_86 F) (fun _ F => ft_readFirst_0_s12 F)
theorem ft_readFirst_0_s8 {x1 : Int32} {s8 : sm_S} (F : FS f pl ci O s8) : FI f pl ci O (sm_bI (sm_callM X true (d + 6) 106 [vP (15, 0), vI (x1 + 1)] s8) sm_tw fun y9 s10 => sm_bV (sm_callM X true (d + 6) 86 [vP (15, 0), vI 41] s10) sm_tw fun s12 => some (some (some (vI y9)), (sI s12 15 0 10 4))) := by
  exact bindI (fs_106 F) (fun _ _ F => ft_readFirst_0_s10 F)
theorem ft_readFirst_0_s16 {y15 : Int32} {s16 : sm_S} (F : FS f pl ci O s16) : FI f pl ci O (some (some (some (vI y15)), s16)) := by
  exact fi_ret F
theorem ft_readFirst_0_s14 {o1 : Int32} {s14 : sm_S} (F : FS f pl ci O s14) : FI f pl ci O (sm_bI (sm_callM X true (d + 6) 112 [vP (15, 0), vI (-1), vI o1] s14) sm_tw fun y15 s16 => some (some (some (vI y15)), s16)) := by
  exact bindI (fs_112 F) (fun _ _ F => ft_readFirst_0_s16 F)
theorem ft_readFirst_0_s18 {y17 : Int32} {s18 : sm_S} (F : FS f pl ci O s18) : FI f pl ci O (some (some (some (vI y17)), s18)) := by
  exact fi_ret F
theorem ft_readFirst_0_s22 {s22 : sm_S} (F : FS f pl ci O s22) : FI f pl ci O (some (some (some (vI 37)), s22)) := by
  exact fi_ret F
theorem ft_readFirst_0_s20 {o1 : Int32} {s20 : sm_S} (F : FS f pl ci O s20) : FI f pl ci O (if ((sI s20 15 0 10 4).2.2.1 15 0 3).1 = 10 then (sm_bI (sm_callM X true (d + 6) 13 [vP ((sI s20 15 0 10 4).2.2.1 15 0 3), vI 4, vI 0, vI o1] (sI s20 15 0 10 4)) sm_tw fun y21 s22 => some (some (some (vI 37)), s22)) else (none)) := by
  refine ifT (FS.cd (FS.wr F (by decide) (by decide) (by decide) (by decide))) ?_
  exact bindI (fs_13 (FS.wr F (by decide) (by decide) (by decide) (by decide))) (fun _ _ F => ft_readFirst_0_s22 F)
theorem ft_readUnit_8_s2 {x1 : Int32} {y1 : Int32} {x3 : Int32} {s2 : sm_S} (F : FS f pl ci O s2) : FI f pl ci O (sm_go (sm_ZZ X) sm_PP true (sm_callM X true (d + 2)) 110 8 [vP (15, 0), vI x1, vI y1, vI (x3 + 1)] [] s2) := by
  exact fg_readUnit_8 F
theorem ft_readUnit_8_s4 {x1 : Int32} {y3 : Int32} {x3 : Int32} {s4 : sm_S} (F : FS f pl ci O s4) : FI f pl ci O (sm_go (sm_ZZ X) sm_PP true (sm_callM X true (d + 2)) 110 8 [vP (15, 0), vI x1, vI y3, vI (x3 + 1)] [] s4) := by
  exact fg_readUnit_8 F
theorem ft_readUnit_8_s6 {x1 : Int32} {y5 : Int32} {x3 : Int32} {s6 : sm_S} (F : FS f pl ci O s6) : FI f pl ci O (sm_go (sm_ZZ X) sm_PP true (sm_callM X true (d + 2)) 110 8 [vP (15, 0), vI x1, vI y5, vI (x3 + 1)] [] s6) := by
  exact fg_readUnit_8 F
theorem ft_readUnit_8_s8 {x1 : Int32} {y7 : Int32} {x3 : Int32} {s8 : sm_S} (F : FS f pl ci O s8) : FI f pl ci O (sm_go (sm_ZZ X) sm_PP true (sm_callM X true (d + 2)) 110 8 [vP (15, 0), vI x1, vI y7, vI (x3 + 1)] [] s8) := by
  exact fg_readUnit_8 F
theorem ft_readCall_67_s4 {x1 : Int32} {x2 : Int32} {x3 : Int32} {x4 : Int32} {x5 : Int32} {s4 : sm_S} (F : FS f pl ci O s4) : FI f pl ci O (sm_go (sm_ZZ X) sm_PP true (sm_callM X true (d + 7)) 114 67 [vP (15, 0), vI x1, vI x2, vI x3, vI (x4 + 1), vI (x5 + 1)] [] s4) := by
  exact fg_readCall_67 F
theorem ft_readCall_67_s2 {x3 : Int32} {x4 : Int32} {x1 : Int32} {x2 : Int32} {x5 : Int32} {s2 : sm_S} (F : FS f pl ci O s2) : FI f pl ci O (sm_bV (sm_callM X true (d + 7) 115 [vP (15, 0), vI x3, vI x4, vI (x1 + 1)] s2) sm_tw fun s4 => sm_go (sm_ZZ X) sm_PP true (sm_callM X true (d + 7)) 114 67 [vP (15, 0), vI x1, vI x2, vI x3, vI (x4 + 1), vI (x5 + 1)] [] s4) := by
  exact bindV (fs_115 F) (fun _ F => ft_readCall_67_s4 F)
theorem ft_readNew_0_s4 {x1 : Int32} {o1 : Int32} {o2 : Int64} {s4 : sm_S} (F : FS f pl ci O s4) : FI f pl ci O (sm_go (sm_ZZ X) sm_PP true (sm_callM X true (d + 6)) 116 38 [vP (15, 0), vI x1, vI o1, vI (Int64.toInt32 o2), vU] [] s4) := by
  exact fg_readNew_38 F
theorem ft_readNew_38_s10 {x3 : Int32} {s10 : sm_S} (F : FS f pl ci O s10) : FI f pl ci O (some (some (some (vI x3)), (sI s10 15 0 10 4))) := by
  exact fi_ret (FS.wr F (by decide) (by decide) (by decide) (by decide))
theorem ft_readNew_38_s8 {x3 : Int32} {x2 : Int32} {s8 : sm_S} (F : FS f pl ci O s8) : FI f pl ci O (if (s8.2.2.1 15 0 3).1 = 10 then (sm_bI (sm_callM X true (d + 6) 13 [vP (s8.2.2.1 15 0 3), vI 20, vI x3, vI x2] s8) sm_tw fun y9 s10 => some (some (some (vI x3)), (sI s10 15 0 10 4))) else (none)) := by
  refine ifT (FS.cd F) ?_
  exact bindI (fs_13 F) (fun _ _ F => ft_readNew_38_s10 F)
theorem ft_readNew_38_s6 {x3 : Int32} {x2 : Int32} {s6 : sm_S} (F : FS f pl ci O s6) : FI f pl ci O (sm_bV (sm_callM X true (d + 6) 86 [vP (15, 0), vI 41] s6) sm_tw fun s8 => if (s8.2.2.1 15 0 3).1 = 10 then (sm_bI (sm_callM X true (d + 6) 13 [vP (s8.2.2.1 15 0 3), vI 20, vI x3, vI x2] s8) sm_tw fun y9 s10 => some (some (some (vI x3)), (sI s10 15 0 10 4))) else (none)) := by
  exact bindV (fs_86 F) (fun _ F => ft_readNew_38_s8 F)
theorem ft_readMember_0_s8 {s8 : sm_S} (F : FS f pl ci O s8) : FI f pl ci O (some (some (some (vI 36)), (sI s8 15 0 10 4))) := by
  exact fi_ret (FS.wr F (by decide) (by decide) (by decide) (by decide))
theorem ft_readMember_0_s6 {o1 : Int32} {s6 : sm_S} (F : FS f pl ci O s6) : FI f pl ci O (if (s6.2.2.1 15 0 3).1 = 10 then (sm_bI (sm_callM X true (d + 5) 13 [vP (s6.2.2.1 15 0 3), vI 19, vI 0, vI o1] s6) sm_tw fun y7 s8 => some (some (some (vI 36)), (sI s8 15 0 10 4))) else (none)) := by
  refine ifT (FS.cd F) ?_
  exact bindI (fs_13 F) (fun _ _ F => ft_readMember_0_s8 F)
theorem ft_readMember_0_s12 {x1 : Int32} {y9 : Int32} {o1 : Int32} {s12 : sm_S} (F : FS f pl ci O s12) : FI f pl ci O (sm_go (sm_ZZ X) sm_PP true (sm_callM X true (d + 5)) 118 131 [vP (15, 0), vI x1, vI o1, vI y9] [] s12) := by
  exact fg_readMember_131 F
theorem ft_readMember_0_s19 {x1 : Int32} {y9 : Int32} {o1 : Int32} {s19 : sm_S} (F : FS f pl ci O s19) : FI f pl ci O (sm_go (sm_ZZ X) sm_PP true (sm_callM X true (d + 5)) 118 131 [vP (15, 0), vI x1, vI o1, vI y9] [] s19) := by
  exact fg_readMember_131 F
theorem ft_readMember_0_s17 {y9 : Int32} {x1 : Int32} {o1 : Int32} {s17 : sm_S} (F : FS f pl ci O s17) : FI f pl ci O (if (s17.2.2.1 15 0 3).1 = 10 then (sm_bI (sm_callM X true (d + 5) 13 [vP (s17.2.2.1 15 0 3), vI 17, vI y9, vI o1] s17) sm_tw fun y18 s19 => sm_go (sm_ZZ X) sm_PP true (sm_callM X true (d + 5)) 118 131 [vP (15, 0), vI x1, vI o1, vI y9] [] s19) else (none)) := by
  refine ifT (FS.cd F) ?_
  exact bindI (fs_13 F) (fun _ _ F => ft_readMember_0_s19 F)
theorem ft_readMember_0_s21 {x1 : Int32} {y9 : Int32} {o1 : Int32} {s21 : sm_S} (F : FS f pl ci O s21) : FI f pl ci O (sm_go (sm_ZZ X) sm_PP true (sm_callM X true (d + 5)) 118 131 [vP (15, 0), vI x1, vI o1, vI y9] [] s21) := by
  exact fg_readMember_131 F
theorem ft_readBlock_0_s4 {x1 : Int32} {y3 : Int32} {s4 : sm_S} (F : FS f pl ci O s4) : FV f pl ci O (sm_go (sm_ZZ X) sm_PP true (sm_callM X true (d + 2)) 95 38 [vP (15, 0), vI x1, vI y3, vI 0] [] s4) := by
  exact fg_readBlock_38 F
theorem ft_readBlock_0_s2 {x1 : Int32} {s2 : sm_S} (F : FS f pl ci O s2) : FV f pl ci O (sm_bI (sm_callM X true (d + 2) 77 [vP (14, 0)] s2) sm_tw fun y3 s4 => sm_go (sm_ZZ X) sm_PP true (sm_callM X true (d + 2)) 95 38 [vP (15, 0), vI x1, vI y3, vI 0] [] s4) := by
  exact bindI (fs_77 F) (fun _ _ F => ft_readBlock_0_s4 F)
theorem ft_readBlock_38_s8 {s8 : sm_S} (F : FS f pl ci O s8) : FV f pl ci O (some (some none, s8)) := by
  exact fv_ret F
theorem ft_readBlock_38_s6 {x2 : Int32} {s6 : sm_S} (F : FS f pl ci O s6) : FV f pl ci O (sm_bV (sm_callM X true (d + 2) 78 [vP (14, 0), vI x2] s6) sm_tw fun s8 => some (some none, s8)) := by
  exact bindV (fs_78 F) (fun _ F => ft_readBlock_38_s8 F)
theorem ft_readBlock_38_s10 {x1 : Int32} {x2 : Int32} {x3 : Int32} {s10 : sm_S} (F : FS f pl ci O s10) : FV f pl ci O (sm_go (sm_ZZ X) sm_PP true (sm_callM X true (d + 2)) 95 38 [vP (15, 0), vI x1, vI x2, vI (x3 + 1)] [] s10) := by
  exact fg_readBlock_38 F
theorem ft_readPlaceOrCall_0_s8 {s8 : sm_S} (F : FS f pl ci O s8) : FV f pl ci O (some (some none, s8)) := by
  exact fv_ret F
theorem ft_readIf_0_s16 {s16 : sm_S} (F : FS f pl ci O s16) : FV f pl ci O (some (some none, s16)) := by
  exact fv_ret F
theorem ft_readIf_0_s14 {y9 : Int32} {s14 : sm_S} (F : FS f pl ci O s14) : FV f pl ci O (if (s14.2.2.1 15 0 3).1 = 10 then (sm_bV (sm_callM X true (d + 7) 15 [vP (s14.2.2.1 15 0 3), vI y9] s14) sm_tw fun s16 => some (some none, s16)) else (none)) := by
  refine ifT (FS.cd F) ?_
  exact bindV (fs_15 F) (fun _ F => ft_readIf_0_s16 F)
theorem ft_readIf_0_s12 {x1 : Int32} {y9 : Int32} {s12 : sm_S} (F : FS f pl ci O s12) : FV f pl ci O (sm_bV (sm_callM X true (d + 7) 95 [vP (15, 0), vI x1] s12) sm_tw fun s14 => if (s14.2.2.1 15 0 3).1 = 10 then (sm_bV (sm_callM X true (d + 7) 15 [vP (s14.2.2.1 15 0 3), vI y9] s14) sm_tw fun s16 => some (some none, s16)) else (none)) := by
  exact bindV (fs_95 F) (fun _ F => ft_readIf_0_s14 F)
theorem ft_readIf_0_s10 {y3 : Int32} {x1 : Int32} {y9 : Int32} {s10 : sm_S} (F : FS f pl ci O s10) : FV f pl ci O (if (s10.2.2.1 15 0 3).1 = 10 then (sm_bV (sm_callM X true (d + 7) 15 [vP (s10.2.2.1 15 0 3), vI y3] s10) sm_tw fun s12 => sm_bV (sm_callM X true (d + 7) 95 [vP (15, 0), vI x1] s12) sm_tw fun s14 => if (s14.2.2.1 15 0 3).1 = 10 then (sm_bV (sm_callM X true (d + 7) 15 [vP (s14.2.2.1 15 0 3), vI y9] s14) sm_tw fun s16 => some (some none, s16)) else (none)) else (none)) := by
  refine ifT (FS.cd F) ?_
  exact bindV (fs_15 F) (fun _ F => ft_readIf_0_s12 F)
theorem ft_readIf_0_s8 {y3 : Int32} {x1 : Int32} {s8 : sm_S} (F : FS f pl ci O s8) : FV f pl ci O (if (s8.2.2.1 15 0 3).1 = 10 then (sm_bI (sm_callM X true (d + 7) 13 [vP (s8.2.2.1 15 0 3), vI 0, vI 0, vI (-1)] s8) sm_tw fun y9 s10 => if (s10.2.2.1 15 0 3).1 = 10 then (sm_bV (sm_callM X true (d + 7) 15 [vP (s10.2.2.1 15 0 3), vI y3] s10) sm_tw fun s12 => sm_bV (sm_callM X true (d + 7) 95 [vP (15, 0), vI x1] s12) sm_tw fun s14 => if (s14.2.2.1 15 0 3).1 = 10 then (sm_bV (sm_callM X true (d + 7) 15 [vP (s14.2.2.1 15 0 3), vI y9] s14) sm_tw fun s16 => some (some none, s16)) else (none)) else (none)) else (none)) := by
  refine ifT (FS.cd F) ?_
  exact bindI (fs_13 F) (fun _ _ F => ft_readIf_0_s10 F)
theorem ft_readReturn_0_s8 {s8 : sm_S} (F : FS f pl ci O s8) : FV f pl ci O (some (some none, s8)) := by
  exact fv_ret F
theorem ft_readReturn_0_s6 {o1 : Int32} {s6 : sm_S} (F : FS f pl ci O s6) : FV f pl ci O (if (s6.2.2.1 15 0 3).1 = 10 then (sm_bI (sm_callM X true (d + 6) 13 [vP (s6.2.2.1 15 0 3), vI 24, vI 0, vI o1] s6) sm_tw fun y7 s8 => some (some none, s8)) else (none)) := by
  refine ifT (FS.cd F) ?_
  exact bindI (fs_13 F) (fun _ _ F => ft_readReturn_0_s8 F)
theorem ft_readReturn_0_s12 {s12 : sm_S} (F : FS f pl ci O s12) : FV f pl ci O (some (some none, s12)) := by
  exact fv_ret F
theorem ft_readReturn_0_s10 {o1 : Int32} {s10 : sm_S} (F : FS f pl ci O s10) : FV f pl ci O (if (s10.2.2.1 15 0 3).1 = 10 then (sm_bI (sm_callM X true (d + 6) 13 [vP (s10.2.2.1 15 0 3), vI 24, vI 0, vI o1] s10) sm_tw fun y11 s12 => some (some none, s12)) else (none)) := by
  refine ifT (FS.cd F) ?_
  exact bindI (fs_13 F) (fun _ _ F => ft_readReturn_0_s12 F)
theorem ft_readStatement_0_s2 {s2 : sm_S} (F : FS f pl ci O s2) : FV f pl ci O (some (some none, s2)) := by
  exact fv_ret F
theorem ft_readStatement_0_s4 {s4 : sm_S} (F : FS f pl ci O s4) : FV f pl ci O (some (some none, s4)) := by
  exact fv_ret F
theorem ft_readStatement_0_s6 {s6 : sm_S} (F : FS f pl ci O s6) : FV f pl ci O (some (some none, s6)) := by
  exact fv_ret F
theorem ft_readStatement_0_s8 {s8 : sm_S} (F : FS f pl ci O s8) : FV f pl ci O (some (some none, s8)) := by
  exact fv_ret F
theorem ft_readStatement_0_s10 {s10 : sm_S} (F : FS f pl ci O s10) : FV f pl ci O (some (some none, s10)) := by
  exact fv_ret F
theorem ft_readStatement_0_s12 {s12 : sm_S} (F : FS f pl ci O s12) : FV f pl ci O (some (some none, s12)) := by
  exact fv_ret F
theorem ft_readStatement_0_s14 {s14 : sm_S} (F : FS f pl ci O s14) : FV f pl ci O (some (some none, s14)) := by
  exact fv_ret F
theorem ft_readStatement_0_s16 {s16 : sm_S} (F : FS f pl ci O s16) : FV f pl ci O (some (some none, s16)) := by
  exact fv_ret F
theorem ft_readStatement_0_s18 {s18 : sm_S} (F : FS f pl ci O s18) : FV f pl ci O (some (some none, s18)) := by
  exact fv_ret F
end
