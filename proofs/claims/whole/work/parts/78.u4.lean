section
variable {X : Nat × (Nat → Int32)} {d : Nat} {s σ : sm_S} {f pl : Int32} {ci : Nat} {O : Nat → Nat → Nat → Int32}
theorem ft_expectFit_0_s4 {s4 : sm_S} (F : FS f pl ci O s4) : FV f pl ci O (some (some none, s4)) := by
  exact fv_ret F
theorem ft_expectFit_0_s2 {s2 : sm_S} (F : FS f pl ci O s2) : FV f pl ci O (sm_bV (sm_callM X true (d + 1) 84 [vP (15, 0)] s2) sm_tw fun s4 => some (some none, s4)) := by
  exact bindV (fs_84 F) (fun _ F => ft_expectFit_0_s4 F)
theorem ft_expectFit_0_s6 {s6 : sm_S} (F : FS f pl ci O s6) : FV f pl ci O (some (some none, s6)) := by
  exact fv_ret F
theorem ft_expectFit_0_s10 {s10 : sm_S} (F : FS f pl ci O s10) : FV f pl ci O (some (some none, s10)) := by
  exact fv_ret F
theorem ft_expectFit_0_s8 {s8 : sm_S} (F : FS f pl ci O s8) : FV f pl ci O (sm_bV (sm_callM X true (d + 1) 84 [vP (15, 0)] s8) sm_tw fun s10 => some (some none, s10)) := by
  exact bindV (fs_84 F) (fun _ F => ft_expectFit_0_s10 F)
theorem fs_85 {x1 : Int32} {x2 : Int32} (F : FS f pl ci O s) : FV f pl ci O (sm_callM X true (d + 2) 85 [vP (15, 0), vI x1, vI x2] s) := by
  rw [f_X5_expectFit, q_X5_expectFit_0]
  refine ifB ?_ ?_
  · refine ifB ?_ ?_
    · exact bindV (fs_83 F) (fun _ F => ft_expectFit_0_s2 F)
    · exact bindV (fs_84 F) (fun _ F => ft_expectFit_0_s6 F)
  · exact bindV (fs_83 F) (fun _ F => ft_expectFit_0_s8 F)
theorem ft_expect_0_s2 {s2 : sm_S} (F : FS f pl ci O s2) : FV f pl ci O (some (some none, s2)) := by
  exact fv_ret F
theorem ft_expect_0_s6 {s6 : sm_S} (F : FS f pl ci O s6) : FV f pl ci O (some (some none, s6)) := by
  exact fv_ret F
theorem ft_expect_0_s4 {s4 : sm_S} (F : FS f pl ci O s4) : FV f pl ci O (sm_bV (sm_callM X true (d + 1) 84 [vP (15, 0)] s4) sm_tw fun s6 => some (some none, s6)) := by
  exact bindV (fs_84 F) (fun _ F => ft_expect_0_s6 F)
theorem fs_86 {x1 : Int32} (F : FS f pl ci O s) : FV f pl ci O (sm_callM X true (d + 2) 86 [vP (15, 0), vI x1] s) := by
  rw [f_X5_expect, q_X5_expect_0]
  refine ifB ?_ ?_
  · exact bindV (fs_84 F) (fun _ F => ft_expect_0_s2 F)
  · exact bindV (fs_83 F) (fun _ F => ft_expect_0_s4 F)
theorem ft_expectOpening_0_s2 {s2 : sm_S} (F : FS f pl ci O s2) : FV f pl ci O (some (some none, s2)) := by
  exact fv_ret F
theorem ft_expectOpening_0_s6 {s6 : sm_S} (F : FS f pl ci O s6) : FV f pl ci O (some (some none, s6)) := by
  exact fv_ret F
theorem ft_expectOpening_0_s4 {s4 : sm_S} (F : FS f pl ci O s4) : FV f pl ci O (sm_bV (sm_callM X true (d + 1) 84 [vP (15, 0)] s4) sm_tw fun s6 => some (some none, s6)) := by
  exact bindV (fs_84 F) (fun _ F => ft_expectOpening_0_s6 F)
theorem ft_expectOpening_0_s10 {s10 : sm_S} (F : FS f pl ci O s10) : FV f pl ci O (some (some none, s10)) := by
  exact fv_ret F
theorem ft_expectOpening_0_s8 {s8 : sm_S} (F : FS f pl ci O s8) : FV f pl ci O (sm_bV (sm_callM X true (d + 1) 84 [vP (15, 0)] s8) sm_tw fun s10 => some (some none, s10)) := by
  exact bindV (fs_84 F) (fun _ F => ft_expectOpening_0_s10 F)
theorem fs_87 {x1 : Int32} {x2 : Int32} (F : FS f pl ci O s) : FV f pl ci O (sm_callM X true (d + 2) 87 [vP (15, 0), vI x1, vI x2] s) := by
  rw [f_X5_expectOpening, q_X5_expectOpening_0]
  refine ifB ?_ ?_
  · refine ifB ?_ ?_
    · exact bindV (fs_84 F) (fun _ F => ft_expectOpening_0_s2 F)
    · exact bindV (fs_83 F) (fun _ F => ft_expectOpening_0_s4 F)
  · exact bindV (fs_83 F) (fun _ F => ft_expectOpening_0_s8 F)
theorem ft_readTypeUpToLast_0_s8 {s8 : sm_S} (F : FS f pl ci O s8) : FI f pl ci O (some (some (some (vI 38)), s8)) := by
  exact fi_ret F
theorem fs_94 (F : FS f pl ci O s) : FI f pl ci O (sm_callM X true (d + 2) 94 [vP (15, 0)] s) := by
  rw [f_X5_readTypeUpToLast, q_X5_readTypeUpToLast_0]
  refine ifF (FS.kn F (by decide)) ?_
  exact bindV (fs_83 F) (fun _ F => ft_readTypeUpToLast_0_s8 F)
theorem ft_readType_0_s4 {y1 : Int32} {s4 : sm_S} (F : FS f pl ci O s4) : FI f pl ci O (some (some (some (vI y1)), s4)) := by
  exact fi_ret F
theorem ft_readType_0_s2 {y1 : Int32} {s2 : sm_S} (F : FS f pl ci O s2) : FI f pl ci O (sm_bV (sm_callM X true (d + 2) 84 [vP (15, 0)] s2) sm_tw fun s4 => some (some (some (vI y1)), s4)) := by
  exact bindV (fs_84 F) (fun _ F => ft_readType_0_s4 F)
theorem fs_93 (F : FS f pl ci O s) : FI f pl ci O (sm_callM X true (d + 3) 93 [vP (15, 0)] s) := by
  rw [f_X5_readType, q_X5_readType_0]
  exact bindI (fs_94 F) (fun _ _ F => ft_readType_0_s2 F)
theorem ft_readNewName_70_s4 {y1 : Int32} {s4 : sm_S} (F : FS f pl ci O s4) : FI f pl ci O (some (some (some (vI y1)), s4)) := by
  exact fi_ret F
theorem ft_readNewName_70_s2 {y1 : Int32} {s2 : sm_S} (F : FS f pl ci O s2) : FI f pl ci O (sm_bV (sm_callM X true (d + 2) 84 [vP (15, 0)] s2) sm_tw fun s4 => some (some (some (vI y1)), s4)) := by
  exact bindV (fs_84 F) (fun _ F => ft_readNewName_70_s4 F)
theorem fg_readNewName_70 {x1 : Int32} {d2 : sm_V} {d3 : sm_V} (F : FS f pl ci O s) : FI f pl ci O (sm_go (sm_ZZ X) sm_PP true (sm_callM X true (d + 2)) 92 70 [vP (15, 0), vI x1, d2, d3] [] s) := by
  rw [q_X5_readNewName_70]
  exact bindI (fs_75 F) (fun _ _ F => ft_readNewName_70_s2 F)
theorem ft_readNewName_0_s12 {x1 : Int32} {x2 : Int32} {s12 : sm_S} (F : FS f pl ci O s12) : FI f pl ci O (sm_go (sm_ZZ X) sm_PP true (sm_callM X true (d + 2)) 92 70 [vP (15, 0), vI x1, vI x2, vU] [] s12) := by
  exact fg_readNewName_70 F
theorem fs_92 {x1 : Int32} {x2 : Int32} (F : FS f pl ci O s) : FI f pl ci O (sm_callM X true (d + 3) 92 [vP (15, 0), vI x1, vI x2] s) := by
  rw [f_X5_readNewName, q_X5_readNewName_0]
  refine ifF (FS.kn F (by decide)) ?_
  exact bindV (fs_83 F) (fun _ F => ft_readNewName_0_s12 F)
theorem ft_readProcName_0_s17 {s17 : sm_S} (F : FS f pl ci O s17) : FV f pl ci O (some (some none, s17)) := by
  exact fv_ret F
theorem ft_readProcName_0_s2 {y1 : Int32} {s2 : sm_S} (F : FS f pl ci O s2) : FV f pl ci O (if (s2.1 15 0 6) = 3 then (sm_bI (sm_callM X true (d + 1) 90 [vP (15, 0), vL (s2.2.1 15 0 8)] s2) sm_tw fun y3 s4 => if y3 = (-1) then (if y1 < 0 then (sm_bV (sm_callM X true (d + 1) 83 [vP (15, 0), vI 5, vI (s4.1 15 0 7)] s4) sm_tw fun s6 => some (some none, s6)) else (if y1 < 12 then (sm_ix y1 12 fun z7 => if ((sL s4 50 0 z7 (s4.2.1 15 0 8)).2.2.1 15 0 3).1 = 10 then (sm_bI (sm_callM X true (d + 1) 5 [vP ((sL s4 50 0 z7 (s4.2.1 15 0 8)).2.2.1 15 0 3)] (sL s4 50 0 z7 (s4.2.1 15 0 8))) sm_tw fun y8 s9 => sm_bV (sm_callM X true (d + 1) 84 [vP (15, 0)] (sI s9 15 0 4 y8)) sm_tw fun s11 => some (some none, s11)) else (none)) else (sm_bV (sm_callM X true (d + 1) 83 [vP (15, 0), vI 5, vI (s4.1 15 0 7)] s4) sm_tw fun s13 => some (some none, s13)))) else (sm_bV (sm_callM X true (d + 1) 83 [vP (15, 0), vI 3, vI (s4.1 15 0 7)] s4) sm_tw fun s15 => some (some none, s15))) else (sm_bV (sm_callM X true (d + 1) 83 [vP (15, 0), vI 1, vI (s2.1 15 0 7)] s2) sm_tw fun s17 => some (some none, s17))) := by
  refine ifF (FS.kn F (by decide)) ?_
  exact bindV (fs_83 F) (fun _ F => ft_readProcName_0_s17 F)
theorem fs_89 (F : FS f pl ci O s) : FV f pl ci O (sm_callM X true (d + 2) 89 [vP (15, 0)] s) := by
  rw [f_X5_readProcName, q_X5_readProcName_0]
  refine ifT (FS.cd F) ?_
  exact bindI (fs_2 F) (fun _ _ F => ft_readProcName_0_s2 F)
theorem ft_readParameter_25_s6 {s6 : sm_S} (F : FS f pl ci O s6) : FV f pl ci O (some (some none, s6)) := by
  exact fv_ret F
theorem ft_readParameter_25_s4 {x1 : Int32} {s4 : sm_S} (F : FS f pl ci O s4) : FV f pl ci O (if (s4.2.2.1 15 0 3).1 = 10 then (sm_bV (sm_callM X true (d + 3) 6 [vP (s4.2.2.1 15 0 3), vI (s4.1 15 0 4), vI x1] s4) sm_tw fun s6 => some (some none, s6)) else (none)) := by
  refine ifT (FS.cd F) ?_
  exact bindV (fs_6 F) (fun _ F => ft_readParameter_25_s6 F)
theorem ft_readParameter_25_s2 {y1 : Int32} {x1 : Int32} {s2 : sm_S} (F : FS f pl ci O s2) : FV f pl ci O (sm_bV (sm_callM X true (d + 3) 76 [vP (14, 0), vI y1] s2) sm_tw fun s4 => if (s4.2.2.1 15 0 3).1 = 10 then (sm_bV (sm_callM X true (d + 3) 6 [vP (s4.2.2.1 15 0 3), vI (s4.1 15 0 4), vI x1] s4) sm_tw fun s6 => some (some none, s6)) else (none)) := by
  exact bindV (fs_76 F) (fun _ F => ft_readParameter_25_s4 F)
theorem fg_readParameter_25 {x1 : Int32} {d2 : sm_V} {d3 : sm_V} {x100 : Int32} (F : FS f pl ci O s) : FV f pl ci O (sm_go (sm_ZZ X) sm_PP true (sm_callM X true (d + 3)) 91 25 [vP (15, 0), vI x1, d2, d3] [vI x100] s) := by
  rw [q_X5_readParameter_25]
  exact bindI (fs_92 F) (fun _ _ F => ft_readParameter_25_s2 F)
theorem ft_readParameter_0_s4 {y3 : Int32} {y1 : Int32} {s4 : sm_S} (F : FS f pl ci O s4) : FV f pl ci O (if y3 < 4 then (sm_go (sm_ZZ X) sm_PP true (sm_callM X true (d + 3)) 91 25 [vP (15, 0), vI y1, vU, vU] [vI 0] s4) else (sm_go (sm_ZZ X) sm_PP true (sm_callM X true (d + 3)) 91 25 [vP (15, 0), vI y1, vU, vU] [vI 1] s4)) := by
  refine ifB ?_ ?_
  · exact fg_readParameter_25 F
  · exact fg_readParameter_25 F
theorem ft_readParameter_0_s2 {y1 : Int32} {s2 : sm_S} (F : FS f pl ci O s2) : FV f pl ci O (if (s2.2.2.1 15 0 3).1 = 10 then (sm_bI (sm_callM X true (d + 3) 8 [vP (s2.2.2.1 15 0 3), vI (s2.1 15 0 4)] s2) sm_tw fun y3 s4 => if y3 < 4 then (sm_go (sm_ZZ X) sm_PP true (sm_callM X true (d + 3)) 91 25 [vP (15, 0), vI y1, vU, vU] [vI 0] s4) else (sm_go (sm_ZZ X) sm_PP true (sm_callM X true (d + 3)) 91 25 [vP (15, 0), vI y1, vU, vU] [vI 1] s4)) else (none)) := by
  refine ifT (FS.cd F) ?_
  exact bindI (fs_8 F) (fun _ _ F => ft_readParameter_0_s4 F)
theorem fs_91 (F : FS f pl ci O s) : FV f pl ci O (sm_callM X true (d + 4) 91 [vP (15, 0)] s) := by
  rw [f_X5_readParameter, q_X5_readParameter_0]
  exact bindI (fs_93 F) (fun _ _ F => ft_readParameter_0_s2 F)
theorem ft_readHead_69_s2 {s2 : sm_S} (F : FS f pl ci O s2) : FV f pl ci O (if (s2.1 15 0 6) = 58 then (sm_bV (sm_callM X true (d + 4) 84 [vP (15, 0)] s2) sm_tw fun s4 => sm_bI (sm_callM X true (d + 4) 93 [vP (15, 0)] s4) sm_tw fun y5 s6 => if (s4.2.2.1 15 0 3).1 = 10 then (sm_bV (sm_callM X true (d + 4) 7 [vP (s4.2.2.1 15 0 3), vI (s4.1 15 0 4), vI y5] s6) sm_tw fun s8 => some (some none, s8)) else (none)) else (some (some none, s2))) := by
  refine ifF (FS.kn F (by decide)) ?_
  exact fv_ret F
theorem fg_readHead_69 {d1 : sm_V} (F : FS f pl ci O s) : FV f pl ci O (sm_go (sm_ZZ X) sm_PP true (sm_callM X true (d + 4)) 88 69 [vP (15, 0), d1] [] s) := by
  rw [q_X5_readHead_69]
  exact bindV (fs_86 F) (fun _ F => ft_readHead_69_s2 F)
theorem fg_readHead_39 {x1 : Int32} (F : FS f pl ci O s) : FV f pl ci O (sm_go (sm_ZZ X) sm_PP true (sm_callM X true (d + 4)) 88 39 [vP (15, 0), vI x1] [] s) := by
  rw [q_X5_readHead_39]
  refine ifB ?_ ?_
  · exact fg_readHead_69 F
  · refine ifF (FS.kn F (by decide)) ?_
    exact fg_readHead_69 F
theorem ft_readHead_0_s10 {s10 : sm_S} (F : FS f pl ci O s10) : FV f pl ci O (sm_go (sm_ZZ X) sm_PP true (sm_callM X true (d + 4)) 88 39 [vP (15, 0), vI 0] [] s10) := by
  exact fg_readHead_39 F
theorem ft_readHead_0_s8 {s8 : sm_S} (F : FS f pl ci O s8) : FV f pl ci O (if (s8.1 15 0 6) = 41 then (sm_go (sm_ZZ X) sm_PP true (sm_callM X true (d + 4)) 88 69 [vP (15, 0), vU] [] s8) else (sm_bV (sm_callM X true (d + 4) 91 [vP (15, 0)] s8) sm_tw fun s10 => sm_go (sm_ZZ X) sm_PP true (sm_callM X true (d + 4)) 88 39 [vP (15, 0), vI 0] [] s10)) := by
  refine ifF (FS.kn F (by decide)) ?_
  exact bindV (fs_91 F) (fun _ F => ft_readHead_0_s10 F)
theorem ft_readHead_0_s6 {s6 : sm_S} (F : FS f pl ci O s6) : FV f pl ci O (sm_bV (sm_callM X true (d + 4) 86 [vP (15, 0), vI 40] s6) sm_tw fun s8 => if (s8.1 15 0 6) = 41 then (sm_go (sm_ZZ X) sm_PP true (sm_callM X true (d + 4)) 88 69 [vP (15, 0), vU] [] s8) else (sm_bV (sm_callM X true (d + 4) 91 [vP (15, 0)] s8) sm_tw fun s10 => sm_go (sm_ZZ X) sm_PP true (sm_callM X true (d + 4)) 88 39 [vP (15, 0), vI 0] [] s10)) := by
  exact bindV (fs_86 F) (fun _ F => ft_readHead_0_s8 F)
theorem ft_readHead_0_s4 {s4 : sm_S} (F : FS f pl ci O s4) : FV f pl ci O (sm_bV (sm_callM X true (d + 4) 73 [vP (14, 0)] s4) sm_tw fun s6 => sm_bV (sm_callM X true (d + 4) 86 [vP (15, 0), vI 40] s6) sm_tw fun s8 => if (s8.1 15 0 6) = 41 then (sm_go (sm_ZZ X) sm_PP true (sm_callM X true (d + 4)) 88 69 [vP (15, 0), vU] [] s8) else (sm_bV (sm_callM X true (d + 4) 91 [vP (15, 0)] s8) sm_tw fun s10 => sm_go (sm_ZZ X) sm_PP true (sm_callM X true (d + 4)) 88 39 [vP (15, 0), vI 0] [] s10)) := by
  exact bindV (fs_73 F) (fun _ F => ft_readHead_0_s6 F)
theorem ft_readHead_0_s2 {s2 : sm_S} (F : FS f pl ci O s2) : FV f pl ci O (sm_bV (sm_callM X true (d + 4) 89 [vP (15, 0)] s2) sm_tw fun s4 => sm_bV (sm_callM X true (d + 4) 73 [vP (14, 0)] s4) sm_tw fun s6 => sm_bV (sm_callM X true (d + 4) 86 [vP (15, 0), vI 40] s6) sm_tw fun s8 => if (s8.1 15 0 6) = 41 then (sm_go (sm_ZZ X) sm_PP true (sm_callM X true (d + 4)) 88 69 [vP (15, 0), vU] [] s8) else (sm_bV (sm_callM X true (d + 4) 91 [vP (15, 0)] s8) sm_tw fun s10 => sm_go (sm_ZZ X) sm_PP true (sm_callM X true (d + 4)) 88 39 [vP (15, 0), vI 0] [] s10)) := by
  exact bindV (fs_89 F) (fun _ F => ft_readHead_0_s4 F)
theorem fs_88 (F : FS f pl ci O s) : FV f pl ci O (sm_callM X true (d + 5) 88 [vP (15, 0)] s) := by
  rw [f_X5_readHead, q_X5_readHead_0]
  exact bindV (fs_86 F) (fun _ F => ft_readHead_0_s2 F)
theorem ft_finishSign_0_s2 {s2 : sm_S} (F : FS f pl ci O s2) : FI f pl ci O (some (some (some (vI 36)), s2)) := by
  exact fi_ret F
theorem ft_finishSign_0_s6 {s6 : sm_S} (F : FS f pl ci O s6) : FI f pl ci O (some (some (some (vI 36)), s6)) := by
  exact fi_ret F
theorem ft_finishSign_0_s4 {x1 : Int32} {x3 : Int32} {s4 : sm_S} (F : FS f pl ci O s4) : FI f pl ci O (if (s4.2.2.1 15 0 3).1 = 10 then (sm_bI (sm_callM X true (d + 1) 13 [vP (s4.2.2.1 15 0 3), vI x1, vI 0, vI x3] s4) sm_tw fun y5 s6 => some (some (some (vI 36)), s6)) else (none)) := by
  refine ifT (FS.cd F) ?_
  exact bindI (fs_13 F) (fun _ _ F => ft_finishSign_0_s6 F)
theorem fs_109 {x1 : Int32} {x2 : Int32} {x3 : Int32} (F : FS f pl ci O s) : FI f pl ci O (sm_callM X true (d + 2) 109 [vP (15, 0), vI x1, vI x2, vI x3] s) := by
  rw [f_X5_finishSign, q_X5_finishSign_0]
  refine ifB ?_ ?_
  · refine ifT (FS.cd F) ?_
    exact bindI (fs_13 F) (fun _ _ F => ft_finishSign_0_s2 F)
  · exact bindV (fs_83 F) (fun _ F => ft_finishSign_0_s4 F)
theorem ft_readNumber_0_s4 {s4 : sm_S} (F : FS f pl ci O s4) : FI f pl ci O (some (some (some (vI 36)), (sI s4 15 0 10 4))) := by
  exact fi_ret (FS.wr F (by decide) (by decide) (by decide) (by decide))
theorem ft_readNumber_0_s2 {x1 : Int32} {x2 : Int32} {o1 : Int64} {s2 : sm_S} (F : FS f pl ci O s2) : FI f pl ci O (if (s2.2.2.1 15 0 3).1 = 10 then (sm_bI (sm_callM X true (d + 2) 13 [vP (s2.2.2.1 15 0 3), vI 4, vI (x1 * (Int64.toInt32 o1)), vI x2] s2) sm_tw fun y3 s4 => some (some (some (vI 36)), (sI s4 15 0 10 4))) else (none)) := by
  refine ifT (FS.cd F) ?_
  exact bindI (fs_13 F) (fun _ _ F => ft_readNumber_0_s4 F)
theorem fs_112 {x1 : Int32} {x2 : Int32} (F : FS f pl ci O s) : FI f pl ci O (sm_callM X true (d + 3) 112 [vP (15, 0), vI x1, vI x2] s) := by
  rw [f_X5_readNumber, q_X5_readNumber_0]
  exact bindV (fs_86 F) (fun _ F => ft_readNumber_0_s2 F)
theorem ft_readValueOfName_26_s6 {y5 : Int32} {s6 : sm_S} (F : FS f pl ci O s6) : FI f pl ci O (some (some (some (vI y5)), s6)) := by
  exact fi_ret F
theorem ft_readValueOfName_26_s4 {x1 : Int32} {s4 : sm_S} (F : FS f pl ci O s4) : FI f pl ci O (sm_bI (sm_callM X true (d + 1) 80 [vP (14, 0), vI x1] (sI s4 15 0 10 0)) sm_tw fun y5 s6 => some (some (some (vI y5)), s6)) := by
  exact bindI (fs_80 (FS.wr F (by decide) (by decide) (by decide) (by decide))) (fun _ _ F => ft_readValueOfName_26_s6 F)
theorem ft_readValueOfName_26_s2 {x1 : Int32} {s2 : sm_S} (F : FS f pl ci O s2) : FI f pl ci O (sm_bV (sm_callM X true (d + 1) 84 [vP (15, 0)] s2) sm_tw fun s4 => sm_bI (sm_callM X true (d + 1) 80 [vP (14, 0), vI x1] (sI s4 15 0 10 0)) sm_tw fun y5 s6 => some (some (some (vI y5)), s6)) := by
  exact bindV (fs_84 F) (fun _ F => ft_readValueOfName_26_s4 F)
theorem fg_readValueOfName_26 {x1 : Int32} (F : FS f pl ci O s) : FI f pl ci O (sm_go (sm_ZZ X) sm_PP true (sm_callM X true (d + 1)) 113 26 [vP (15, 0), vI x1] [] s) := by
  rw [q_X5_readValueOfName_26]
  refine ifT (FS.cd F) ?_
  exact bindI (fs_13 F) (fun _ _ F => ft_readValueOfName_26_s2 F)
theorem ft_readValueOfName_0_s4 {y1 : Int32} {s4 : sm_S} (F : FS f pl ci O s4) : FI f pl ci O (sm_go (sm_ZZ X) sm_PP true (sm_callM X true (d + 1)) 113 26 [vP (15, 0), vI y1] [] s4) := by
  exact fg_readValueOfName_26 F
theorem ft_readValueOfName_0_s2 {y1 : Int32} {s2 : sm_S} (F : FS f pl ci O s2) : FI f pl ci O (if y1 = (-1) then (sm_bV (sm_callM X true (d + 1) 83 [vP (15, 0), vI 2, vI (s2.1 15 0 7)] s2) sm_tw fun s4 => sm_go (sm_ZZ X) sm_PP true (sm_callM X true (d + 1)) 113 26 [vP (15, 0), vI y1] [] s4) else (sm_go (sm_ZZ X) sm_PP true (sm_callM X true (d + 1)) 113 26 [vP (15, 0), vI y1] [] s2)) := by
  refine ifB ?_ ?_
  · exact bindV (fs_83 F) (fun _ F => ft_readValueOfName_0_s4 F)
  · exact fg_readValueOfName_26 F
theorem fs_113 (F : FS f pl ci O s) : FI f pl ci O (sm_callM X true (d + 2) 113 [vP (15, 0)] s) := by
  rw [f_X5_readValueOfName, q_X5_readValueOfName_0]
  exact bindI (fs_79 F) (fun _ _ F => ft_readValueOfName_0_s2 F)
theorem ft_readFirst_0_s24 {s24 : sm_S} (F : FS f pl ci O s24) : FI f pl ci O (some (some (some (vI 38)), s24)) := by
  exact fi_ret F
theorem fs_111 {x1 : Int32} (F : FS f pl ci O s) : FI f pl ci O (sm_callM X true (d + 2) 111 [vP (15, 0), vI x1] s) := by
  rw [f_X5_readFirst, q_X5_readFirst_0]
  refine ifF (FS.kn F (by decide)) ?_
  refine ifF (FS.kn F (by decide)) ?_
  refine ifF (FS.kn F (by decide)) ?_
  refine ifF (FS.kn F (by decide)) ?_
  refine ifF (FS.kn F (by decide)) ?_
  refine ifF (FS.kn F (by decide)) ?_
  exact bindV (fs_83 F) (fun _ F => ft_readFirst_0_s24 F)
theorem fg_readUnit_8 {x1 : Int32} {x2 : Int32} {x3 : Int32} (F : FS f pl ci O s) : FI f pl ci O (sm_go (sm_ZZ X) sm_PP true (sm_callM X true (d + 2)) 110 8 [vP (15, 0), vI x1, vI x2, vI x3] [] s) := by
  rw [q_X5_readUnit_8]
  refine ifB ?_ ?_
  · exact fi_ret F
  · refine ifF (FS.kn F (by decide)) ?_
    refine ifF (FS.kn F (by decide)) ?_
    refine ifF (FS.kn F (by decide)) ?_
    refine ifF (FS.kn F (by decide)) ?_
    exact fi_ret F
theorem ft_readUnit_0_s2 {x1 : Int32} {y1 : Int32} {s2 : sm_S} (F : FS f pl ci O s2) : FI f pl ci O (sm_go (sm_ZZ X) sm_PP true (sm_callM X true (d + 2)) 110 8 [vP (15, 0), vI x1, vI y1, vI 0] [] s2) := by
  exact fg_readUnit_8 F
theorem fs_110 {x1 : Int32} (F : FS f pl ci O s) : FI f pl ci O (sm_callM X true (d + 3) 110 [vP (15, 0), vI x1] s) := by
  rw [f_X5_readUnit, q_X5_readUnit_0]
  exact bindI (fs_111 F) (fun _ _ F => ft_readUnit_0_s2 F)
theorem fg_readProduct_8 {x1 : Int32} {x2 : Int32} {x3 : Int32} {d4 : sm_V} {d5 : sm_V} (F : FS f pl ci O s) : FI f pl ci O (sm_go (sm_ZZ X) sm_PP true (sm_callM X true (d + 3)) 108 8 [vP (15, 0), vI x1, vI x2, vI x3, d4, d5] [] s) := by
  rw [q_X5_readProduct_8]
  refine ifB ?_ ?_
  · exact fi_ret F
  · refine ifF (FS.kn F (by decide)) ?_
    exact fi_ret F
theorem ft_readProduct_0_s2 {x1 : Int32} {y1 : Int32} {s2 : sm_S} (F : FS f pl ci O s2) : FI f pl ci O (sm_go (sm_ZZ X) sm_PP true (sm_callM X true (d + 3)) 108 8 [vP (15, 0), vI x1, vI y1, vI 0, vU, vU] [] s2) := by
  exact fg_readProduct_8 F
theorem fs_108 {x1 : Int32} (F : FS f pl ci O s) : FI f pl ci O (sm_callM X true (d + 4) 108 [vP (15, 0), vI x1] s) := by
  rw [f_X5_readProduct, q_X5_readProduct_0]
  exact bindI (fs_110 F) (fun _ _ F => ft_readProduct_0_s2 F)
theorem ft_readProduct_44_s6 {x1 : Int32} {y5 : Int32} {x3 : Int32} {x4 : Int32} {y3 : Int32} {s6 : sm_S} (F : FS f pl ci O s6) : FI f pl ci O (sm_go (sm_ZZ X) sm_PP true (sm_callM X true (d + 3)) 108 8 [vP (15, 0), vI x1, vI y5, vI (x3 + 1), vI x4, vI y3] [] s6) := by
  exact fg_readProduct_8 F
theorem ft_readProduct_44_s4 {y3 : Int32} {x4 : Int32} {x1 : Int32} {x3 : Int32} {s4 : sm_S} (F : FS f pl ci O s4) : FI f pl ci O (sm_bI (sm_callM X true (d + 3) 109 [vP (15, 0), vI 9, vI y3, vI x4] s4) sm_tw fun y5 s6 => sm_go (sm_ZZ X) sm_PP true (sm_callM X true (d + 3)) 108 8 [vP (15, 0), vI x1, vI y5, vI (x3 + 1), vI x4, vI y3] [] s6) := by
  exact bindI (fs_109 F) (fun _ _ F => ft_readProduct_44_s6 F)
theorem ft_readProduct_44_s2 {x1 : Int32} {x4 : Int32} {x3 : Int32} {s2 : sm_S} (F : FS f pl ci O s2) : FI f pl ci O (sm_bI (sm_callM X true (d + 3) 110 [vP (15, 0), vI x1] s2) sm_tw fun y3 s4 => sm_bI (sm_callM X true (d + 3) 109 [vP (15, 0), vI 9, vI y3, vI x4] s4) sm_tw fun y5 s6 => sm_go (sm_ZZ X) sm_PP true (sm_callM X true (d + 3)) 108 8 [vP (15, 0), vI x1, vI y5, vI (x3 + 1), vI x4, vI y3] [] s6) := by
  exact bindI (fs_110 F) (fun _ _ F => ft_readProduct_44_s4 F)
theorem fg_readProduct_44 {x1 : Int32} {d2 : sm_V} {x3 : Int32} {x4 : Int32} {d5 : sm_V} {x101 : Int32} {x102 : Int32} (F : FS f pl ci O s) : FI f pl ci O (sm_go (sm_ZZ X) sm_PP true (sm_callM X true (d + 3)) 108 44 [vP (15, 0), vI x1, d2, vI x3, vI x4, d5] [vI x102, vI x101, vP (15, 0)] s) := by
  rw [q_X5_readProduct_44]
  refine ifT rfl ?_
  exact bindV (fs_85 F) (fun _ F => ft_readProduct_44_s2 F)
theorem fg_readSum_8 {x1 : Int32} {x2 : Int32} {x3 : Int32} {d4 : sm_V} {d5 : sm_V} {d6 : sm_V} (F : FS f pl ci O s) : FI f pl ci O (sm_go (sm_ZZ X) sm_PP true (sm_callM X true (d + 4)) 107 8 [vP (15, 0), vI x1, vI x2, vI x3, d4, d5, d6] [] s) := by
  rw [q_X5_readSum_8]
  refine ifB ?_ ?_
  · exact fi_ret F
  · refine ifF (FS.kn F (by decide)) ?_
    refine ifF (FS.kn F (by decide)) ?_
    exact fi_ret F
theorem ft_readSum_0_s2 {x1 : Int32} {y1 : Int32} {s2 : sm_S} (F : FS f pl ci O s2) : FI f pl ci O (sm_go (sm_ZZ X) sm_PP true (sm_callM X true (d + 4)) 107 8 [vP (15, 0), vI x1, vI y1, vI 0, vU, vU, vU] [] s2) := by
  exact fg_readSum_8 F
theorem fs_107 {x1 : Int32} (F : FS f pl ci O s) : FI f pl ci O (sm_callM X true (d + 5) 107 [vP (15, 0), vI x1] s) := by
  rw [f_X5_readSum, q_X5_readSum_0]
  exact bindI (fs_108 F) (fun _ _ F => ft_readSum_0_s2 F)
theorem ft_readSum_73_s6 {x1 : Int32} {y5 : Int32} {x3 : Int32} {x4 : Int32} {x5 : Int32} {y3 : Int32} {s6 : sm_S} (F : FS f pl ci O s6) : FI f pl ci O (sm_go (sm_ZZ X) sm_PP true (sm_callM X true (d + 4)) 107 8 [vP (15, 0), vI x1, vI y5, vI (x3 + 1), vI x4, vI x5, vI y3] [] s6) := by
  exact fg_readSum_8 F
theorem ft_readSum_73_s4 {x4 : Int32} {y3 : Int32} {x5 : Int32} {x1 : Int32} {x3 : Int32} {s4 : sm_S} (F : FS f pl ci O s4) : FI f pl ci O (sm_bI (sm_callM X true (d + 4) 109 [vP (15, 0), vI x4, vI y3, vI x5] s4) sm_tw fun y5 s6 => sm_go (sm_ZZ X) sm_PP true (sm_callM X true (d + 4)) 107 8 [vP (15, 0), vI x1, vI y5, vI (x3 + 1), vI x4, vI x5, vI y3] [] s6) := by
  exact bindI (fs_109 F) (fun _ _ F => ft_readSum_73_s6 F)
theorem ft_readSum_73_s2 {x1 : Int32} {x4 : Int32} {x5 : Int32} {x3 : Int32} {s2 : sm_S} (F : FS f pl ci O s2) : FI f pl ci O (sm_bI (sm_callM X true (d + 4) 108 [vP (15, 0), vI x1] s2) sm_tw fun y3 s4 => sm_bI (sm_callM X true (d + 4) 109 [vP (15, 0), vI x4, vI y3, vI x5] s4) sm_tw fun y5 s6 => sm_go (sm_ZZ X) sm_PP true (sm_callM X true (d + 4)) 107 8 [vP (15, 0), vI x1, vI y5, vI (x3 + 1), vI x4, vI x5, vI y3] [] s6) := by
  exact bindI (fs_108 F) (fun _ _ F => ft_readSum_73_s4 F)
theorem fg_readSum_73 {x1 : Int32} {d2 : sm_V} {x3 : Int32} {x4 : Int32} {x5 : Int32} {d6 : sm_V} {x101 : Int32} {x102 : Int32} (F : FS f pl ci O s) : FI f pl ci O (sm_go (sm_ZZ X) sm_PP true (sm_callM X true (d + 4)) 107 73 [vP (15, 0), vI x1, d2, vI x3, vI x4, vI x5, d6] [vI x102, vI x101, vP (15, 0)] s) := by
  rw [q_X5_readSum_73]
  refine ifT rfl ?_
  exact bindV (fs_85 F) (fun _ F => ft_readSum_73_s2 F)
theorem fg_readSum_49 {x1 : Int32} {x2 : Int32} {x3 : Int32} {d4 : sm_V} {d5 : sm_V} {d6 : sm_V} {x100 : Int32} (F : FS f pl ci O s) : FI f pl ci O (sm_go (sm_ZZ X) sm_PP true (sm_callM X true (d + 4)) 107 49 [vP (15, 0), vI x1, vI x2, vI x3, d4, d5, d6] [vI x100] s) := by
  rw [q_X5_readSum_49]
  refine ifB ?_ ?_
  · exact fg_readSum_73 F
  · exact fg_readSum_73 F
theorem ft_readExpression_0_s2 {x1 : Int32} {y1 : Int32} {s2 : sm_S} (F : FS f pl ci O s2) : FI f pl ci O (if (s2.1 15 0 6) = 1 then (sm_go (sm_ZZ X) sm_PP true (sm_callM X true (d + 5)) 106 29 [vP (15, 0), vI x1, vI y1, vI (s2.1 15 0 6), vU, vU] [] s2) else (if (s2.1 15 0 6) = 2 then (sm_go (sm_ZZ X) sm_PP true (sm_callM X true (d + 5)) 106 29 [vP (15, 0), vI x1, vI y1, vI (s2.1 15 0 6), vU, vU] [] s2) else (if (s2.1 15 0 6) = 60 then (sm_go (sm_ZZ X) sm_PP true (sm_callM X true (d + 5)) 106 29 [vP (15, 0), vI x1, vI y1, vI (s2.1 15 0 6), vU, vU] [] s2) else (some (some (some (vI y1)), s2))))) := by
  refine ifF (FS.kn F (by decide)) ?_
  refine ifF (FS.kn F (by decide)) ?_
  refine ifF (FS.kn F (by decide)) ?_
  exact fi_ret F
theorem fs_106 {x1 : Int32} (F : FS f pl ci O s) : FI f pl ci O (sm_callM X true (d + 6) 106 [vP (15, 0), vI x1] s) := by
  rw [f_X5_readExpression, q_X5_readExpression_0]
  exact bindI (fs_107 F) (fun _ _ F => ft_readExpression_0_s2 F)
theorem ft_readExpression_101_s2 {s2 : sm_S} (F : FS f pl ci O s2) : FI f pl ci O (some (some (some (vI 36)), s2)) := by
  exact fi_ret F
theorem ft_readExpression_101_s4 {s4 : sm_S} (F : FS f pl ci O s4) : FI f pl ci O (some (some (some (vI 36)), s4)) := by
  exact fi_ret F
theorem ft_readExpression_101_s6 {s6 : sm_S} (F : FS f pl ci O s6) : FI f pl ci O (some (some (some (vI 36)), s6)) := by
  exact fi_ret F
theorem fg_readExpression_101 {d1 : sm_V} {d2 : sm_V} {x3 : Int32} {x4 : Int32} {d5 : sm_V} (F : FS f pl ci O s) : FI f pl ci O (sm_go (sm_ZZ X) sm_PP true (sm_callM X true (d + 5)) 106 101 [vP (15, 0), d1, d2, vI x3, vI x4, d5] [] s) := by
  rw [q_X5_readExpression_101]
  refine ifB ?_ ?_
  · refine ifT (FS.cd F) ?_
    exact bindI (fs_13 F) (fun _ _ F => ft_readExpression_101_s2 F)
  · refine ifB ?_ ?_
    · refine ifT (FS.cd F) ?_
      exact bindI (fs_13 F) (fun _ _ F => ft_readExpression_101_s4 F)
    · refine ifT (FS.cd F) ?_
      exact bindI (fs_13 F) (fun _ _ F => ft_readExpression_101_s6 F)
theorem ft_readExpression_60_s6 {x1 : Int32} {x2 : Int32} {x3 : Int32} {x4 : Int32} {y3 : Int32} {s6 : sm_S} (F : FS f pl ci O s6) : FI f pl ci O (sm_go (sm_ZZ X) sm_PP true (sm_callM X true (d + 5)) 106 101 [vP (15, 0), vI x1, vI x2, vI x3, vI x4, vI y3] [] s6) := by
  exact fg_readExpression_101 F
theorem ft_readExpression_60_s10 {x1 : Int32} {x2 : Int32} {x3 : Int32} {x4 : Int32} {y3 : Int32} {s10 : sm_S} (F : FS f pl ci O s10) : FI f pl ci O (sm_go (sm_ZZ X) sm_PP true (sm_callM X true (d + 5)) 106 101 [vP (15, 0), vI x1, vI x2, vI x3, vI x4, vI y3] [] s10) := by
  exact fg_readExpression_101 F
theorem ft_readExpression_60_s8 {y7 : Int32} {x4 : Int32} {x1 : Int32} {x2 : Int32} {x3 : Int32} {y3 : Int32} {s8 : sm_S} (F : FS f pl ci O s8) : FI f pl ci O (if y7 = 0 then (sm_bV (sm_callM X true (d + 5) 83 [vP (15, 0), vI 4, vI x4] s8) sm_tw fun s10 => sm_go (sm_ZZ X) sm_PP true (sm_callM X true (d + 5)) 106 101 [vP (15, 0), vI x1, vI x2, vI x3, vI x4, vI y3] [] s10) else (sm_go (sm_ZZ X) sm_PP true (sm_callM X true (d + 5)) 106 101 [vP (15, 0), vI x1, vI x2, vI x3, vI x4, vI y3] [] s8)) := by
  refine ifB ?_ ?_
  · exact bindV (fs_83 F) (fun _ F => ft_readExpression_60_s10 F)
  · exact fg_readExpression_101 F
theorem ft_readExpression_60_s4 {x2 : Int32} {y3 : Int32} {x1 : Int32} {x3 : Int32} {x4 : Int32} {s4 : sm_S} (F : FS f pl ci O s4) : FI f pl ci O (if x2 = 36 then (if y3 = 36 then (sm_go (sm_ZZ X) sm_PP true (sm_callM X true (d + 5)) 106 101 [vP (15, 0), vI x1, vI x2, vI x3, vI x4, vI y3] [] s4) else (sm_bV (sm_callM X true (d + 5) 83 [vP (15, 0), vI 4, vI x4] s4) sm_tw fun s6 => sm_go (sm_ZZ X) sm_PP true (sm_callM X true (d + 5)) 106 101 [vP (15, 0), vI x1, vI x2, vI x3, vI x4, vI y3] [] s6)) else (sm_bI (sm_callM X true (d + 5) 26 [vI y3] s4) sm_tw fun y7 s8 => if y7 = 0 then (sm_bV (sm_callM X true (d + 5) 83 [vP (15, 0), vI 4, vI x4] s8) sm_tw fun s10 => sm_go (sm_ZZ X) sm_PP true (sm_callM X true (d + 5)) 106 101 [vP (15, 0), vI x1, vI x2, vI x3, vI x4, vI y3] [] s10) else (sm_go (sm_ZZ X) sm_PP true (sm_callM X true (d + 5)) 106 101 [vP (15, 0), vI x1, vI x2, vI x3, vI x4, vI y3] [] s8))) := by
  refine ifB ?_ ?_
  · refine ifB ?_ ?_
    · exact fg_readExpression_101 F
    · exact bindV (fs_83 F) (fun _ F => ft_readExpression_60_s6 F)
  · exact bindI (fs_26 F) (fun _ _ F => ft_readExpression_60_s8 F)
theorem ft_readExpression_60_s2 {x1 : Int32} {x2 : Int32} {x3 : Int32} {x4 : Int32} {s2 : sm_S} (F : FS f pl ci O s2) : FI f pl ci O (sm_bI (sm_callM X true (d + 5) 107 [vP (15, 0), vI x1] s2) sm_tw fun y3 s4 => if x2 = 36 then (if y3 = 36 then (sm_go (sm_ZZ X) sm_PP true (sm_callM X true (d + 5)) 106 101 [vP (15, 0), vI x1, vI x2, vI x3, vI x4, vI y3] [] s4) else (sm_bV (sm_callM X true (d + 5) 83 [vP (15, 0), vI 4, vI x4] s4) sm_tw fun s6 => sm_go (sm_ZZ X) sm_PP true (sm_callM X true (d + 5)) 106 101 [vP (15, 0), vI x1, vI x2, vI x3, vI x4, vI y3] [] s6)) else (sm_bI (sm_callM X true (d + 5) 26 [vI y3] s4) sm_tw fun y7 s8 => if y7 = 0 then (sm_bV (sm_callM X true (d + 5) 83 [vP (15, 0), vI 4, vI x4] s8) sm_tw fun s10 => sm_go (sm_ZZ X) sm_PP true (sm_callM X true (d + 5)) 106 101 [vP (15, 0), vI x1, vI x2, vI x3, vI x4, vI y3] [] s10) else (sm_go (sm_ZZ X) sm_PP true (sm_callM X true (d + 5)) 106 101 [vP (15, 0), vI x1, vI x2, vI x3, vI x4, vI y3] [] s8))) := by
  exact bindI (fs_107 F) (fun _ _ F => ft_readExpression_60_s4 F)
theorem fg_readExpression_60 {x1 : Int32} {x2 : Int32} {x3 : Int32} {x4 : Int32} {d5 : sm_V} {x101 : Int32} {x102 : Int32} (F : FS f pl ci O s) : FI f pl ci O (sm_go (sm_ZZ X) sm_PP true (sm_callM X true (d + 5)) 106 60 [vP (15, 0), vI x1, vI x2, vI x3, vI x4, d5] [vI x102, vI x101, vP (15, 0)] s) := by
  rw [q_X5_readExpression_60]
  refine ifT rfl ?_
  exact bindV (fs_85 F) (fun _ F => ft_readExpression_60_s2 F)
theorem fg_readExpression_29 {x1 : Int32} {x2 : Int32} {x3 : Int32} {d4 : sm_V} {d5 : sm_V} (F : FS f pl ci O s) : FI f pl ci O (sm_go (sm_ZZ X) sm_PP true (sm_callM X true (d + 5)) 106 29 [vP (15, 0), vI x1, vI x2, vI x3, d4, d5] [] s) := by
  rw [q_X5_readExpression_29]
  refine ifB ?_ ?_
  · exact fg_readExpression_60 F
  · refine ifB ?_ ?_
    · refine ifB ?_ ?_
      · exact fg_readExpression_60 F
      · exact fg_readExpression_60 F
    · exact fg_readExpression_60 F
theorem ft_readCondition_0_s8 {y7 : Int32} {s8 : sm_S} (F : FS f pl ci O s8) : FI f pl ci O (some (some (some (vI y7)), s8)) := by
  exact fi_ret F
theorem ft_readCondition_0_s6 {x1 : Int32} {s6 : sm_S} (F : FS f pl ci O s6) : FI f pl ci O (if (s6.2.2.1 15 0 3).1 = 10 then (sm_bI (sm_callM X true (d + 6) 13 [vP (s6.2.2.1 15 0 3), vI 26, vI 0, vI x1] s6) sm_tw fun y7 s8 => some (some (some (vI y7)), s8)) else (none)) := by
  refine ifT (FS.cd F) ?_
  exact bindI (fs_13 F) (fun _ _ F => ft_readCondition_0_s8 F)
theorem ft_readCondition_0_s12 {y11 : Int32} {s12 : sm_S} (F : FS f pl ci O s12) : FI f pl ci O (some (some (some (vI y11)), s12)) := by
  exact fi_ret F
theorem ft_readCondition_0_s10 {x1 : Int32} {s10 : sm_S} (F : FS f pl ci O s10) : FI f pl ci O (if (s10.2.2.1 15 0 3).1 = 10 then (sm_bI (sm_callM X true (d + 6) 13 [vP (s10.2.2.1 15 0 3), vI 26, vI 0, vI x1] s10) sm_tw fun y11 s12 => some (some (some (vI y11)), s12)) else (none)) := by
  refine ifT (FS.cd F) ?_
  exact bindI (fs_13 F) (fun _ _ F => ft_readCondition_0_s12 F)
theorem ft_readCondition_0_s4 {y3 : Int32} {x1 : Int32} {s4 : sm_S} (F : FS f pl ci O s4) : FI f pl ci O (if y3 = 36 then (sm_bV (sm_callM X true (d + 6) 85 [vP (15, 0), vI 41, vI 1] s4) sm_tw fun s6 => if (s6.2.2.1 15 0 3).1 = 10 then (sm_bI (sm_callM X true (d + 6) 13 [vP (s6.2.2.1 15 0 3), vI 26, vI 0, vI x1] s6) sm_tw fun y7 s8 => some (some (some (vI y7)), s8)) else (none)) else (sm_bV (sm_callM X true (d + 6) 85 [vP (15, 0), vI 41, vI 0] s4) sm_tw fun s10 => if (s10.2.2.1 15 0 3).1 = 10 then (sm_bI (sm_callM X true (d + 6) 13 [vP (s10.2.2.1 15 0 3), vI 26, vI 0, vI x1] s10) sm_tw fun y11 s12 => some (some (some (vI y11)), s12)) else (none))) := by
  refine ifB ?_ ?_
  · exact bindV (fs_85 F) (fun _ F => ft_readCondition_0_s6 F)
  · exact bindV (fs_85 F) (fun _ F => ft_readCondition_0_s10 F)
theorem ft_readCondition_0_s2 {x1 : Int32} {s2 : sm_S} (F : FS f pl ci O s2) : FI f pl ci O (sm_bI (sm_callM X true (d + 6) 106 [vP (15, 0), vI 1] s2) sm_tw fun y3 s4 => if y3 = 36 then (sm_bV (sm_callM X true (d + 6) 85 [vP (15, 0), vI 41, vI 1] s4) sm_tw fun s6 => if (s6.2.2.1 15 0 3).1 = 10 then (sm_bI (sm_callM X true (d + 6) 13 [vP (s6.2.2.1 15 0 3), vI 26, vI 0, vI x1] s6) sm_tw fun y7 s8 => some (some (some (vI y7)), s8)) else (none)) else (sm_bV (sm_callM X true (d + 6) 85 [vP (15, 0), vI 41, vI 0] s4) sm_tw fun s10 => if (s10.2.2.1 15 0 3).1 = 10 then (sm_bI (sm_callM X true (d + 6) 13 [vP (s10.2.2.1 15 0 3), vI 26, vI 0, vI x1] s10) sm_tw fun y11 s12 => some (some (some (vI y11)), s12)) else (none))) := by
  exact bindI (fs_106 F) (fun _ _ F => ft_readCondition_0_s4 F)
theorem fs_99 {x1 : Int32} (F : FS f pl ci O s) : FI f pl ci O (sm_callM X true (d + 7) 99 [vP (15, 0), vI x1] s) := by
  rw [f_X5_readCondition, q_X5_readCondition_0]
  exact bindV (fs_87 F) (fun _ F => ft_readCondition_0_s2 F)
theorem ft_readArgument_30_s6 {s6 : sm_S} (F : FS f pl ci O s6) : FV f pl ci O (some (some none, s6)) := by
  exact fv_ret F
theorem ft_readArgument_30_s4 {y3 : Int32} {s4 : sm_S} (F : FS f pl ci O s4) : FV f pl ci O (if y3 = 0 then (sm_bV (sm_callM X true (d + 6) 83 [vP (15, 0), vI 4, vI (s4.1 15 0 7)] s4) sm_tw fun s6 => some (some none, s6)) else (some (some none, s4))) := by
  refine ifB ?_ ?_
  · exact bindV (fs_83 F) (fun _ F => ft_readArgument_30_s6 F)
  · exact fv_ret F
theorem ft_readArgument_30_s2 {x4 : Int32} {y1 : Int32} {s2 : sm_S} (F : FS f pl ci O s2) : FV f pl ci O (sm_bI (sm_callM X true (d + 6) 28 [vI x4, vI y1] s2) sm_tw fun y3 s4 => if y3 = 0 then (sm_bV (sm_callM X true (d + 6) 83 [vP (15, 0), vI 4, vI (s4.1 15 0 7)] s4) sm_tw fun s6 => some (some none, s6)) else (some (some none, s4))) := by
  exact bindI (fs_28 F) (fun _ _ F => ft_readArgument_30_s4 F)
theorem fg_readArgument_30 {x1 : Int32} {x2 : Int32} {d3 : sm_V} {x4 : Int32} {d5 : sm_V} {x100 : Int32} (F : FS f pl ci O s) : FV f pl ci O (sm_go (sm_ZZ X) sm_PP true (sm_callM X true (d + 6)) 115 30 [vP (15, 0), vI x1, vI x2, d3, vI x4, d5] [vI x100] s) := by
  rw [q_X5_readArgument_30]
  refine ifB ?_ ?_
  · exact fv_ret F
  · refine ifT (FS.cd F) ?_
    exact bindI (fs_9 F) (fun _ _ F => ft_readArgument_30_s2 F)
theorem ft_readArgument_0_s2 {x1 : Int32} {x2 : Int32} {x3 : Int32} {y1 : Int32} {s2 : sm_S} (F : FS f pl ci O s2) : FV f pl ci O (if (s2.1 15 0 6) = 44 then (sm_go (sm_ZZ X) sm_PP true (sm_callM X true (d + 6)) 115 30 [vP (15, 0), vI x1, vI x2, vI x3, vI y1, vU] [vI 1] s2) else (if (s2.1 15 0 6) = 41 then (sm_go (sm_ZZ X) sm_PP true (sm_callM X true (d + 6)) 115 30 [vP (15, 0), vI x1, vI x2, vI x3, vI y1, vU] [vI 1] s2) else (sm_go (sm_ZZ X) sm_PP true (sm_callM X true (d + 6)) 115 30 [vP (15, 0), vI x1, vI x2, vI x3, vI y1, vU] [vI 0] s2))) := by
  refine ifF (FS.kn F (by decide)) ?_
  refine ifF (FS.kn F (by decide)) ?_
  exact fg_readArgument_30 F
theorem fs_115 {x1 : Int32} {x2 : Int32} {x3 : Int32} (F : FS f pl ci O s) : FV f pl ci O (sm_callM X true (d + 7) 115 [vP (15, 0), vI x1, vI x2, vI x3] s) := by
  rw [f_X5_readArgument, q_X5_readArgument_0]
  exact bindI (fs_106 F) (fun _ _ F => ft_readArgument_0_s2 F)
theorem ft_readCall_128_s6 {y5 : Int32} {s6 : sm_S} (F : FS f pl ci O s6) : FI f pl ci O (some (some (some (vI y5)), s6)) := by
  exact fi_ret F
theorem ft_readCall_128_s4 {x3 : Int32} {s4 : sm_S} (F : FS f pl ci O s4) : FI f pl ci O (if ((sI s4 15 0 10 1).2.2.1 15 0 3).1 = 10 then (sm_bI (sm_callM X true (d + 7) 10 [vP ((sI s4 15 0 10 1).2.2.1 15 0 3), vI x3] (sI s4 15 0 10 1)) sm_tw fun y5 s6 => some (some (some (vI y5)), s6)) else (none)) := by
  refine ifT (FS.cd (FS.wr F (by decide) (by decide) (by decide) (by decide))) ?_
  exact bindI (fs_10 (FS.wr F (by decide) (by decide) (by decide) (by decide))) (fun _ _ F => ft_readCall_128_s6 F)
theorem ft_readCall_128_s10 {y9 : Int32} {s10 : sm_S} (F : FS f pl ci O s10) : FI f pl ci O (some (some (some (vI y9)), s10)) := by
  exact fi_ret F
theorem ft_readCall_128_s8 {x3 : Int32} {s8 : sm_S} (F : FS f pl ci O s8) : FI f pl ci O (if ((sI s8 15 0 10 1).2.2.1 15 0 3).1 = 10 then (sm_bI (sm_callM X true (d + 7) 10 [vP ((sI s8 15 0 10 1).2.2.1 15 0 3), vI x3] (sI s8 15 0 10 1)) sm_tw fun y9 s10 => some (some (some (vI y9)), s10)) else (none)) := by
  refine ifT (FS.cd (FS.wr F (by decide) (by decide) (by decide) (by decide))) ?_
  exact bindI (fs_10 (FS.wr F (by decide) (by decide) (by decide) (by decide))) (fun _ _ F => ft_readCall_128_s10 F)
theorem ft_readCall_128_s2 {x3 : Int32} {x2 : Int32} {s2 : sm_S} (F : FS f pl ci O s2) : FI f pl ci O (if x3 < 5 then (if (s2.2.2.1 15 0 3).1 = 10 then (sm_bI (sm_callM X true (d + 7) 13 [vP (s2.2.2.1 15 0 3), vI (28 + x3), vI 0, vI x2] s2) sm_tw fun y3 s4 => if ((sI s4 15 0 10 1).2.2.1 15 0 3).1 = 10 then (sm_bI (sm_callM X true (d + 7) 10 [vP ((sI s4 15 0 10 1).2.2.1 15 0 3), vI x3] (sI s4 15 0 10 1)) sm_tw fun y5 s6 => some (some (some (vI y5)), s6)) else (none)) else (none)) else (if (s2.2.2.1 15 0 3).1 = 10 then (sm_bI (sm_callM X true (d + 7) 13 [vP (s2.2.2.1 15 0 3), vI 27, vI x3, vI x2] s2) sm_tw fun y7 s8 => if ((sI s8 15 0 10 1).2.2.1 15 0 3).1 = 10 then (sm_bI (sm_callM X true (d + 7) 10 [vP ((sI s8 15 0 10 1).2.2.1 15 0 3), vI x3] (sI s8 15 0 10 1)) sm_tw fun y9 s10 => some (some (some (vI y9)), s10)) else (none)) else (none))) := by
  refine ifB ?_ ?_
  · refine ifT (FS.cd F) ?_
    exact bindI (fs_13 F) (fun _ _ F => ft_readCall_128_s4 F)
  · refine ifT (FS.cd F) ?_
    exact bindI (fs_13 F) (fun _ _ F => ft_readCall_128_s8 F)
theorem fg_readCall_128 {d1 : sm_V} {x2 : Int32} {x3 : Int32} {d4 : sm_V} {d5 : sm_V} {x101 : Int32} {x102 : Int32} (F : FS f pl ci O s) : FI f pl ci O (sm_go (sm_ZZ X) sm_PP true (sm_callM X true (d + 7)) 114 128 [vP (15, 0), d1, vI x2, vI x3, d4, d5] [vI x102, vI x101, vP (15, 0)] s) := by
  rw [q_X5_readCall_128]
  refine ifT rfl ?_
  exact bindV (fs_85 F) (fun _ F => ft_readCall_128_s2 F)
theorem ft_readCall_107_s2 {x4 : Int32} {y1 : Int32} {x2 : Int32} {x3 : Int32} {s2 : sm_S} (F : FS f pl ci O s2) : FI f pl ci O (if x4 < y1 then (sm_go (sm_ZZ X) sm_PP true (sm_callM X true (d + 7)) 114 128 [vP (15, 0), vU, vI x2, vI x3, vI x4, vU] [vI 0, vI 41, vP (15, 0)] s2) else (sm_go (sm_ZZ X) sm_PP true (sm_callM X true (d + 7)) 114 128 [vP (15, 0), vU, vI x2, vI x3, vI x4, vU] [vI 1, vI 41, vP (15, 0)] s2)) := by
  refine ifB ?_ ?_
  · exact fg_readCall_128 F
  · exact fg_readCall_128 F
theorem fg_readCall_107 {d1 : sm_V} {x2 : Int32} {x3 : Int32} {x4 : Int32} {d5 : sm_V} (F : FS f pl ci O s) : FI f pl ci O (sm_go (sm_ZZ X) sm_PP true (sm_callM X true (d + 7)) 114 107 [vP (15, 0), d1, vI x2, vI x3, vI x4, d5] [] s) := by
  rw [q_X5_readCall_107]
  refine ifT (FS.cd F) ?_
  exact bindI (fs_8 F) (fun _ _ F => ft_readCall_107_s2 F)
theorem fg_readCall_67 {x1 : Int32} {x2 : Int32} {x3 : Int32} {x4 : Int32} {x5 : Int32} (F : FS f pl ci O s) : FI f pl ci O (sm_go (sm_ZZ X) sm_PP true (sm_callM X true (d + 7)) 114 67 [vP (15, 0), vI x1, vI x2, vI x3, vI x4, vI x5] [] s) := by
  rw [q_X5_readCall_67]
  refine ifB ?_ ?_
  · exact fg_readCall_107 F
  · refine ifF (FS.kn F (by decide)) ?_
    exact fg_readCall_107 F
theorem ft_readCall_28_s6 {x1 : Int32} {x2 : Int32} {x3 : Int32} {s6 : sm_S} (F : FS f pl ci O s6) : FI f pl ci O (sm_go (sm_ZZ X) sm_PP true (sm_callM X true (d + 7)) 114 67 [vP (15, 0), vI x1, vI x2, vI x3, vI (0 + 1), vI 0] [] s6) := by
  exact fg_readCall_67 F
theorem ft_readCall_28_s4 {x1 : Int32} {x2 : Int32} {x3 : Int32} {s4 : sm_S} (F : FS f pl ci O s4) : FI f pl ci O (if (s4.1 15 0 6) = 41 then (sm_go (sm_ZZ X) sm_PP true (sm_callM X true (d + 7)) 114 107 [vP (15, 0), vI x1, vI x2, vI x3, vI 0, vU] [] s4) else (sm_bV (sm_callM X true (d + 7) 115 [vP (15, 0), vI x3, vI 0, vI (x1 + 1)] s4) sm_tw fun s6 => sm_go (sm_ZZ X) sm_PP true (sm_callM X true (d + 7)) 114 67 [vP (15, 0), vI x1, vI x2, vI x3, vI (0 + 1), vI 0] [] s6)) := by
  refine ifF (FS.kn F (by decide)) ?_
  exact bindV (fs_115 F) (fun _ F => ft_readCall_28_s6 F)
theorem ft_readCall_28_s2 {x1 : Int32} {x2 : Int32} {x3 : Int32} {s2 : sm_S} (F : FS f pl ci O s2) : FI f pl ci O (sm_bV (sm_callM X true (d + 7) 87 [vP (15, 0), vI 40, vI x1] s2) sm_tw fun s4 => if (s4.1 15 0 6) = 41 then (sm_go (sm_ZZ X) sm_PP true (sm_callM X true (d + 7)) 114 107 [vP (15, 0), vI x1, vI x2, vI x3, vI 0, vU] [] s4) else (sm_bV (sm_callM X true (d + 7) 115 [vP (15, 0), vI x3, vI 0, vI (x1 + 1)] s4) sm_tw fun s6 => sm_go (sm_ZZ X) sm_PP true (sm_callM X true (d + 7)) 114 67 [vP (15, 0), vI x1, vI x2, vI x3, vI (0 + 1), vI 0] [] s6)) := by
  exact bindV (fs_87 F) (fun _ F => ft_readCall_28_s4 F)
theorem fg_readCall_28 {x1 : Int32} {x2 : Int32} {x3 : Int32} {d4 : sm_V} {d5 : sm_V} (F : FS f pl ci O s) : FI f pl ci O (sm_go (sm_ZZ X) sm_PP true (sm_callM X true (d + 7)) 114 28 [vP (15, 0), vI x1, vI x2, vI x3, d4, d5] [] s) := by
  rw [q_X5_readCall_28]
  exact bindV (fs_84 F) (fun _ F => ft_readCall_28_s2 F)
theorem ft_readCall_0_s4 {x1 : Int32} {y1 : Int32} {o1 : Int32} {s4 : sm_S} (F : FS f pl ci O s4) : FI f pl ci O (sm_go (sm_ZZ X) sm_PP true (sm_callM X true (d + 7)) 114 28 [vP (15, 0), vI x1, vI o1, vI y1, vU, vU] [] s4) := by
  exact fg_readCall_28 F
theorem ft_readCall_0_s2 {y1 : Int32} {x1 : Int32} {o1 : Int32} {s2 : sm_S} (F : FS f pl ci O s2) : FI f pl ci O (if y1 = (-1) then (sm_bV (sm_callM X true (d + 7) 83 [vP (15, 0), vI 2, vI (s2.1 15 0 7)] s2) sm_tw fun s4 => sm_go (sm_ZZ X) sm_PP true (sm_callM X true (d + 7)) 114 28 [vP (15, 0), vI x1, vI o1, vI y1, vU, vU] [] s4) else (sm_go (sm_ZZ X) sm_PP true (sm_callM X true (d + 7)) 114 28 [vP (15, 0), vI x1, vI o1, vI y1, vU, vU] [] s2)) := by
  refine ifB ?_ ?_
  · exact bindV (fs_83 F) (fun _ F => ft_readCall_0_s4 F)
  · exact fg_readCall_28 F
theorem fs_114 {x1 : Int32} (F : FS f pl ci O s) : FI f pl ci O (sm_callM X true (d + 8) 114 [vP (15, 0), vI x1] s) := by
  rw [f_X5_readCall, q_X5_readCall_0]
  exact bindI (fs_90 F) (fun _ _ F => ft_readCall_0_s2 F)
theorem ft_readNew_121_s4 {x3 : Int32} {s4 : sm_S} (F : FS f pl ci O s4) : FI f pl ci O (some (some (some (vI (18 + x3))), (sI s4 15 0 10 4))) := by
  exact fi_ret (FS.wr F (by decide) (by decide) (by decide) (by decide))
theorem ft_readNew_121_s2 {x3 : Int32} {x2 : Int32} {s2 : sm_S} (F : FS f pl ci O s2) : FI f pl ci O (if (s2.2.2.1 15 0 3).1 = 10 then (sm_bI (sm_callM X true (d + 6) 13 [vP (s2.2.2.1 15 0 3), vI 21, vI x3, vI x2] s2) sm_tw fun y3 s4 => some (some (some (vI (18 + x3))), (sI s4 15 0 10 4))) else (none)) := by
  refine ifT (FS.cd F) ?_
  exact bindI (fs_13 F) (fun _ _ F => ft_readNew_121_s4 F)
theorem fg_readNew_121 {d1 : sm_V} {x2 : Int32} {x3 : Int32} {d4 : sm_V} {x101 : Int32} {x102 : Int32} (F : FS f pl ci O s) : FI f pl ci O (sm_go (sm_ZZ X) sm_PP true (sm_callM X true (d + 6)) 116 121 [vP (15, 0), d1, vI x2, vI x3, d4] [vI x102, vI x101, vP (15, 0)] s) := by
  rw [q_X5_readNew_121]
  refine ifT rfl ?_
  exact bindV (fs_85 F) (fun _ F => ft_readNew_121_s2 F)
theorem ft_readNew_90_s4 {y3 : Int32} {x1 : Int32} {x2 : Int32} {x3 : Int32} {s4 : sm_S} (F : FS f pl ci O s4) : FI f pl ci O (if y3 = 36 then (sm_go (sm_ZZ X) sm_PP true (sm_callM X true (d + 6)) 116 121 [vP (15, 0), vI x1, vI x2, vI x3, vI y3] [vI 1, vI 93, vP (15, 0)] s4) else (sm_go (sm_ZZ X) sm_PP true (sm_callM X true (d + 6)) 116 121 [vP (15, 0), vI x1, vI x2, vI x3, vI y3] [vI 0, vI 93, vP (15, 0)] s4)) := by
  refine ifB ?_ ?_
  · exact fg_readNew_121 F
  · exact fg_readNew_121 F
theorem ft_readNew_90_s2 {x1 : Int32} {x2 : Int32} {x3 : Int32} {s2 : sm_S} (F : FS f pl ci O s2) : FI f pl ci O (sm_bI (sm_callM X true (d + 6) 106 [vP (15, 0), vI (x1 + 1)] s2) sm_tw fun y3 s4 => if y3 = 36 then (sm_go (sm_ZZ X) sm_PP true (sm_callM X true (d + 6)) 116 121 [vP (15, 0), vI x1, vI x2, vI x3, vI y3] [vI 1, vI 93, vP (15, 0)] s4) else (sm_go (sm_ZZ X) sm_PP true (sm_callM X true (d + 6)) 116 121 [vP (15, 0), vI x1, vI x2, vI x3, vI y3] [vI 0, vI 93, vP (15, 0)] s4)) := by
  exact bindI (fs_106 F) (fun _ _ F => ft_readNew_90_s4 F)
theorem fg_readNew_90 {x1 : Int32} {x2 : Int32} {x3 : Int32} {d4 : sm_V} (F : FS f pl ci O s) : FI f pl ci O (sm_go (sm_ZZ X) sm_PP true (sm_callM X true (d + 6)) 116 90 [vP (15, 0), vI x1, vI x2, vI x3, d4] [] s) := by
  rw [q_X5_readNew_90]
  exact bindV (fs_87 F) (fun _ F => ft_readNew_90_s2 F)
theorem ft_readNew_38_s2 {x3 : Int32} {x1 : Int32} {x2 : Int32} {s2 : sm_S} (F : FS f pl ci O s2) : FI f pl ci O (if (s2.1 15 0 6) = 40 then (sm_bI (sm_callM X true (d + 6) 23 [vI x3] s2) sm_tw fun y3 s4 => if y3 = 0 then (sm_go (sm_ZZ X) sm_PP true (sm_callM X true (d + 6)) 116 90 [vP (15, 0), vI x1, vI x2, vI x3, vU] [] s4) else (sm_bV (sm_callM X true (d + 6) 87 [vP (15, 0), vI 40, vI x1] s4) sm_tw fun s6 => sm_bV (sm_callM X true (d + 6) 86 [vP (15, 0), vI 41] s6) sm_tw fun s8 => if (s8.2.2.1 15 0 3).1 = 10 then (sm_bI (sm_callM X true (d + 6) 13 [vP (s8.2.2.1 15 0 3), vI 20, vI x3, vI x2] s8) sm_tw fun y9 s10 => some (some (some (vI x3)), (sI s10 15 0 10 4))) else (none))) else (sm_go (sm_ZZ X) sm_PP true (sm_callM X true (d + 6)) 116 90 [vP (15, 0), vI x1, vI x2, vI x3, vU] [] s2)) := by
  refine ifF (FS.kn F (by decide)) ?_
  exact fg_readNew_90 F
theorem fg_readNew_38 {x1 : Int32} {x2 : Int32} {x3 : Int32} {d4 : sm_V} (F : FS f pl ci O s) : FI f pl ci O (sm_go (sm_ZZ X) sm_PP true (sm_callM X true (d + 6)) 116 38 [vP (15, 0), vI x1, vI x2, vI x3, d4] [] s) := by
  rw [q_X5_readNew_38]
  exact bindV (fs_84 F) (fun _ F => ft_readNew_38_s2 F)
theorem ft_readNew_0_s6 {x1 : Int32} {o1 : Int32} {o2 : Int64} {s6 : sm_S} (F : FS f pl ci O s6) : FI f pl ci O (sm_go (sm_ZZ X) sm_PP true (sm_callM X true (d + 6)) 116 38 [vP (15, 0), vI x1, vI o1, vI (Int64.toInt32 o2), vU] [] s6) := by
  exact fg_readNew_38 F
theorem ft_readNew_0_s2 {x1 : Int32} {o1 : Int32} {s2 : sm_S} (F : FS f pl ci O s2) : FI f pl ci O (if (s2.1 15 0 6) = 5 then (if (Int64.toInt32 (s2.2.1 15 0 8)) = 36 then (sm_bV (sm_callM X true (d + 6) 83 [vP (15, 0), vI 1, vI (s2.1 15 0 7)] s2) sm_tw fun s4 => sm_go (sm_ZZ X) sm_PP true (sm_callM X true (d + 6)) 116 38 [vP (15, 0), vI x1, vI o1, vI (Int64.toInt32 (s2.2.1 15 0 8)), vU] [] s4) else (sm_go (sm_ZZ X) sm_PP true (sm_callM X true (d + 6)) 116 38 [vP (15, 0), vI x1, vI o1, vI (Int64.toInt32 (s2.2.1 15 0 8)), vU] [] s2)) else (sm_bV (sm_callM X true (d + 6) 83 [vP (15, 0), vI 1, vI (s2.1 15 0 7)] s2) sm_tw fun s6 => sm_go (sm_ZZ X) sm_PP true (sm_callM X true (d + 6)) 116 38 [vP (15, 0), vI x1, vI o1, vI (Int64.toInt32 (s2.2.1 15 0 8)), vU] [] s6)) := by
  refine ifF (FS.kn F (by decide)) ?_
  exact bindV (fs_83 F) (fun _ F => ft_readNew_0_s6 F)
theorem fs_116 {x1 : Int32} (F : FS f pl ci O s) : FI f pl ci O (sm_callM X true (d + 7) 116 [vP (15, 0), vI x1] s) := by
  rw [f_X5_readNew, q_X5_readNew_0]
  exact bindV (fs_84 F) (fun _ F => ft_readNew_0_s2 F)
theorem ft_readIndex_43_s4 {x1 : Int32} {s4 : sm_S} (F : FS f pl ci O s4) : FI f pl ci O (some (some (some (vI (x1 - 18))), (sI s4 15 0 10 2))) := by
  exact fi_ret (FS.wr F (by decide) (by decide) (by decide) (by decide))
theorem ft_readIndex_43_s2 {x3 : Int32} {x1 : Int32} {s2 : sm_S} (F : FS f pl ci O s2) : FI f pl ci O (if (s2.2.2.1 15 0 3).1 = 10 then (sm_bI (sm_callM X true (d + 6) 13 [vP (s2.2.2.1 15 0 3), vI 15, vI 0, vI x3] s2) sm_tw fun y3 s4 => some (some (some (vI (x1 - 18))), (sI s4 15 0 10 2))) else (none)) := by
  refine ifT (FS.cd F) ?_
  exact bindI (fs_13 F) (fun _ _ F => ft_readIndex_43_s4 F)
theorem fg_readIndex_43 {x1 : Int32} {d2 : sm_V} {x3 : Int32} {d4 : sm_V} {x101 : Int32} {x102 : Int32} (F : FS f pl ci O s) : FI f pl ci O (sm_go (sm_ZZ X) sm_PP true (sm_callM X true (d + 6)) 117 43 [vP (15, 0), vI x1, d2, vI x3, d4] [vI x102, vI x101, vP (15, 0)] s) := by
  rw [q_X5_readIndex_43]
  refine ifT rfl ?_
  exact bindV (fs_85 F) (fun _ F => ft_readIndex_43_s2 F)
theorem ft_readIndex_0_s6 {y5 : Int32} {x1 : Int32} {x2 : Int32} {y3 : Int32} {o1 : Int32} {s6 : sm_S} (F : FS f pl ci O s6) : FI f pl ci O (if y5 = 0 then (sm_go (sm_ZZ X) sm_PP true (sm_callM X true (d + 6)) 117 43 [vP (15, 0), vI x1, vI x2, vI o1, vI y3] [vI 0, vI 93, vP (15, 0)] s6) else (if y3 = 36 then (sm_go (sm_ZZ X) sm_PP true (sm_callM X true (d + 6)) 117 43 [vP (15, 0), vI x1, vI x2, vI o1, vI y3] [vI 1, vI 93, vP (15, 0)] s6) else (sm_go (sm_ZZ X) sm_PP true (sm_callM X true (d + 6)) 117 43 [vP (15, 0), vI x1, vI x2, vI o1, vI y3] [vI 0, vI 93, vP (15, 0)] s6))) := by
  refine ifB ?_ ?_
  · exact fg_readIndex_43 F
  · refine ifB ?_ ?_
    · exact fg_readIndex_43 F
    · exact fg_readIndex_43 F
theorem ft_readIndex_0_s4 {x1 : Int32} {x2 : Int32} {y3 : Int32} {o1 : Int32} {s4 : sm_S} (F : FS f pl ci O s4) : FI f pl ci O (sm_bI (sm_callM X true (d + 6) 25 [vI x1] s4) sm_tw fun y5 s6 => if y5 = 0 then (sm_go (sm_ZZ X) sm_PP true (sm_callM X true (d + 6)) 117 43 [vP (15, 0), vI x1, vI x2, vI o1, vI y3] [vI 0, vI 93, vP (15, 0)] s6) else (if y3 = 36 then (sm_go (sm_ZZ X) sm_PP true (sm_callM X true (d + 6)) 117 43 [vP (15, 0), vI x1, vI x2, vI o1, vI y3] [vI 1, vI 93, vP (15, 0)] s6) else (sm_go (sm_ZZ X) sm_PP true (sm_callM X true (d + 6)) 117 43 [vP (15, 0), vI x1, vI x2, vI o1, vI y3] [vI 0, vI 93, vP (15, 0)] s6))) := by
  exact bindI (fs_25 F) (fun _ _ F => ft_readIndex_0_s6 F)
theorem ft_readIndex_0_s2 {x2 : Int32} {x1 : Int32} {o1 : Int32} {s2 : sm_S} (F : FS f pl ci O s2) : FI f pl ci O (sm_bI (sm_callM X true (d + 6) 106 [vP (15, 0), vI (x2 + 1)] s2) sm_tw fun y3 s4 => sm_bI (sm_callM X true (d + 6) 25 [vI x1] s4) sm_tw fun y5 s6 => if y5 = 0 then (sm_go (sm_ZZ X) sm_PP true (sm_callM X true (d + 6)) 117 43 [vP (15, 0), vI x1, vI x2, vI o1, vI y3] [vI 0, vI 93, vP (15, 0)] s6) else (if y3 = 36 then (sm_go (sm_ZZ X) sm_PP true (sm_callM X true (d + 6)) 117 43 [vP (15, 0), vI x1, vI x2, vI o1, vI y3] [vI 1, vI 93, vP (15, 0)] s6) else (sm_go (sm_ZZ X) sm_PP true (sm_callM X true (d + 6)) 117 43 [vP (15, 0), vI x1, vI x2, vI o1, vI y3] [vI 0, vI 93, vP (15, 0)] s6))) := by
  exact bindI (fs_106 F) (fun _ _ F => ft_readIndex_0_s4 F)
theorem fs_117 {x1 : Int32} {x2 : Int32} (F : FS f pl ci O s) : FI f pl ci O (sm_callM X true (d + 7) 117 [vP (15, 0), vI x1, vI x2] s) := by
  rw [f_X5_readIndex, q_X5_readIndex_0]
  exact bindV (fs_87 F) (fun _ F => ft_readIndex_0_s2 F)
theorem fg_readMember_131 {d1 : sm_V} {d2 : sm_V} {x3 : Int32} (F : FS f pl ci O s) : FI f pl ci O (sm_go (sm_ZZ X) sm_PP true (sm_callM X true (d + 5)) 118 131 [vP (15, 0), d1, d2, vI x3] [] s) := by
  rw [q_X5_readMember_131]
  refine ifB ?_ ?_
  · exact fi_ret (FS.wr F (by decide) (by decide) (by decide) (by decide))
  · exact fi_ret (FS.wr F (by decide) (by decide) (by decide) (by decide))
theorem ft_readMember_0_s23 {x1 : Int32} {y9 : Int32} {o1 : Int32} {s23 : sm_S} (F : FS f pl ci O s23) : FI f pl ci O (sm_go (sm_ZZ X) sm_PP true (sm_callM X true (d + 5)) 118 131 [vP (15, 0), vI x1, vI o1, vI y9] [] s23) := by
  exact fg_readMember_131 F
theorem ft_readMember_0_s10 {y9 : Int32} {x1 : Int32} {o1 : Int32} {s10 : sm_S} (F : FS f pl ci O s10) : FI f pl ci O (if (s10.1 15 0 6) = 3 then (if y9 < 0 then (sm_bV (sm_callM X true (d + 5) 83 [vP (15, 0), vI 2, vI (s10.1 15 0 7)] s10) sm_tw fun s12 => sm_go (sm_ZZ X) sm_PP true (sm_callM X true (d + 5)) 118 131 [vP (15, 0), vI x1, vI o1, vI y9] [] s12) else (if y9 < (Int32.ofNat (sm_tb 4).length) then (sm_ix y9 (sm_tb 4).length fun z13 => sm_bI (sm_callM X true (d + 5) 28 [vI x1, vI ((sm_tb 4).getD z13 0)] s10) sm_tw fun y14 s15 => sm_bV (sm_callM X true (d + 5) 85 [vP (15, 0), vI 3, vI y14] s15) sm_tw fun s17 => if (s17.2.2.1 15 0 3).1 = 10 then (sm_bI (sm_callM X true (d + 5) 13 [vP (s17.2.2.1 15 0 3), vI 17, vI y9, vI o1] s17) sm_tw fun y18 s19 => sm_go (sm_ZZ X) sm_PP true (sm_callM X true (d + 5)) 118 131 [vP (15, 0), vI x1, vI o1, vI y9] [] s19) else (none)) else (sm_bV (sm_callM X true (d + 5) 83 [vP (15, 0), vI 2, vI (s10.1 15 0 7)] s10) sm_tw fun s21 => sm_go (sm_ZZ X) sm_PP true (sm_callM X true (d + 5)) 118 131 [vP (15, 0), vI x1, vI o1, vI y9] [] s21))) else (sm_bV (sm_callM X true (d + 5) 83 [vP (15, 0), vI 1, vI (s10.1 15 0 7)] s10) sm_tw fun s23 => sm_go (sm_ZZ X) sm_PP true (sm_callM X true (d + 5)) 118 131 [vP (15, 0), vI x1, vI o1, vI y9] [] s23)) := by
  refine ifF (FS.kn F (by decide)) ?_
  exact bindV (fs_83 F) (fun _ F => ft_readMember_0_s23 F)
theorem ft_readMember_0_s2 {x1 : Int32} {s2 : sm_S} (F : FS f pl ci O s2) : FI f pl ci O (if (s2.1 15 0 6) = 214 then (sm_bI (sm_callM X true (d + 5) 25 [vI x1] s2) sm_tw fun y3 s4 => sm_bV (sm_callM X true (d + 5) 85 [vP (15, 0), vI 214, vI y3] s4) sm_tw fun s6 => if (s6.2.2.1 15 0 3).1 = 10 then (sm_bI (sm_callM X true (d + 5) 13 [vP (s6.2.2.1 15 0 3), vI 19, vI 0, vI (s2.1 15 0 7)] s6) sm_tw fun y7 s8 => some (some (some (vI 36)), (sI s8 15 0 10 4))) else (none)) else (sm_bI (sm_callM X true (d + 5) 133 [vP (5, 4), vL (s2.2.1 15 0 8)] s2) sm_tw fun y9 s10 => if (s10.1 15 0 6) = 3 then (if y9 < 0 then (sm_bV (sm_callM X true (d + 5) 83 [vP (15, 0), vI 2, vI (s10.1 15 0 7)] s10) sm_tw fun s12 => sm_go (sm_ZZ X) sm_PP true (sm_callM X true (d + 5)) 118 131 [vP (15, 0), vI x1, vI (s2.1 15 0 7), vI y9] [] s12) else (if y9 < (Int32.ofNat (sm_tb 4).length) then (sm_ix y9 (sm_tb 4).length fun z13 => sm_bI (sm_callM X true (d + 5) 28 [vI x1, vI ((sm_tb 4).getD z13 0)] s10) sm_tw fun y14 s15 => sm_bV (sm_callM X true (d + 5) 85 [vP (15, 0), vI 3, vI y14] s15) sm_tw fun s17 => if (s17.2.2.1 15 0 3).1 = 10 then (sm_bI (sm_callM X true (d + 5) 13 [vP (s17.2.2.1 15 0 3), vI 17, vI y9, vI (s2.1 15 0 7)] s17) sm_tw fun y18 s19 => sm_go (sm_ZZ X) sm_PP true (sm_callM X true (d + 5)) 118 131 [vP (15, 0), vI x1, vI (s2.1 15 0 7), vI y9] [] s19) else (none)) else (sm_bV (sm_callM X true (d + 5) 83 [vP (15, 0), vI 2, vI (s10.1 15 0 7)] s10) sm_tw fun s21 => sm_go (sm_ZZ X) sm_PP true (sm_callM X true (d + 5)) 118 131 [vP (15, 0), vI x1, vI (s2.1 15 0 7), vI y9] [] s21))) else (sm_bV (sm_callM X true (d + 5) 83 [vP (15, 0), vI 1, vI (s10.1 15 0 7)] s10) sm_tw fun s23 => sm_go (sm_ZZ X) sm_PP true (sm_callM X true (d + 5)) 118 131 [vP (15, 0), vI x1, vI (s2.1 15 0 7), vI y9] [] s23))) := by
  refine ifF (FS.kn F (by decide)) ?_
  exact bindI (fs_133 F) (fun _ _ F => ft_readMember_0_s10 F)
theorem fs_118 {x1 : Int32} (F : FS f pl ci O s) : FI f pl ci O (sm_callM X true (d + 6) 118 [vP (15, 0), vI x1] s) := by
  rw [f_X5_readMember, q_X5_readMember_0]
  exact bindV (fs_84 F) (fun _ F => ft_readMember_0_s2 F)
theorem ft_readAsked_68_s2 {x2 : Int32} {x4 : Int32} {s2 : sm_S} (F : FS f pl ci O s2) : FI f pl ci O (if x2 = 0 then (some (some (some (vI 36)), (sI s2 15 0 10 4))) else (some (some (some (vI x4)), (sI s2 15 0 10 4)))) := by
  refine ifB ?_ ?_
  · exact fi_ret (FS.wr F (by decide) (by decide) (by decide) (by decide))
  · exact fi_ret (FS.wr F (by decide) (by decide) (by decide) (by decide))
theorem fg_readAsked_68 {d1 : sm_V} {x2 : Int32} {x3 : Int32} {x4 : Int32} {x101 : Int32} (F : FS f pl ci O s) : FI f pl ci O (sm_go (sm_ZZ X) sm_PP true (sm_callM X true (d + 2)) 119 68 [vP (15, 0), d1, vI x2, vI x3, vI x4] [vI x101, vP (s.2.2.1 15 0 3)] s) := by
  rw [q_X5_readAsked_68]
  refine ifT (FS.cd F) ?_
  exact bindI (fs_13 F) (fun _ _ F => ft_readAsked_68_s2 F)
theorem ft_readAsked_49_s2 {x2 : Int32} {x3 : Int32} {x4 : Int32} {s2 : sm_S} (F : FS f pl ci O s2) : FI f pl ci O (if x2 = 0 then (sm_go (sm_ZZ X) sm_PP true (sm_callM X true (d + 2)) 119 68 [vP (15, 0), vU, vI x2, vI x3, vI x4] [vI 14, vP (s2.2.2.1 15 0 3)] s2) else (sm_go (sm_ZZ X) sm_PP true (sm_callM X true (d + 2)) 119 68 [vP (15, 0), vU, vI x2, vI x3, vI x4] [vI 13, vP (s2.2.2.1 15 0 3)] s2)) := by
  refine ifB ?_ ?_
  · exact fg_readAsked_68 F
  · exact fg_readAsked_68 F
theorem fg_readAsked_49 {d1 : sm_V} {x2 : Int32} {x3 : Int32} {x4 : Int32} (F : FS f pl ci O s) : FI f pl ci O (sm_go (sm_ZZ X) sm_PP true (sm_callM X true (d + 2)) 119 49 [vP (15, 0), d1, vI x2, vI x3, vI x4] [] s) := by
  rw [q_X5_readAsked_49]
  exact bindV (fs_84 F) (fun _ F => ft_readAsked_49_s2 F)
theorem ft_readAsked_15_s8 {x1 : Int32} {x100 : Int32} {y3 : Int32} {o1 : Int32} {s8 : sm_S} (F : FS f pl ci O s8) : FI f pl ci O (sm_go (sm_ZZ X) sm_PP true (sm_callM X true (d + 2)) 119 49 [vP (15, 0), vI x1, vI x100, vI o1, vI y3] [] s8) := by
  exact fg_readAsked_49 F
theorem ft_readAsked_15_s6 {y5 : Int32} {x1 : Int32} {x100 : Int32} {y3 : Int32} {o1 : Int32} {s6 : sm_S} (F : FS f pl ci O s6) : FI f pl ci O (if y5 = 0 then (sm_bV (sm_callM X true (d + 2) 83 [vP (15, 0), vI 4, vI (s6.1 15 0 7)] s6) sm_tw fun s8 => sm_go (sm_ZZ X) sm_PP true (sm_callM X true (d + 2)) 119 49 [vP (15, 0), vI x1, vI x100, vI o1, vI y3] [] s8) else (sm_go (sm_ZZ X) sm_PP true (sm_callM X true (d + 2)) 119 49 [vP (15, 0), vI x1, vI x100, vI o1, vI y3] [] s6)) := by
  refine ifB ?_ ?_
  · exact bindV (fs_83 F) (fun _ F => ft_readAsked_15_s8 F)
  · exact fg_readAsked_49 F
theorem ft_readAsked_15_s4 {x1 : Int32} {y3 : Int32} {x100 : Int32} {o1 : Int32} {s4 : sm_S} (F : FS f pl ci O s4) : FI f pl ci O (sm_bI (sm_callM X true (d + 2) 29 [vI x1, vI y3] s4) sm_tw fun y5 s6 => if y5 = 0 then (sm_bV (sm_callM X true (d + 2) 83 [vP (15, 0), vI 4, vI (s6.1 15 0 7)] s6) sm_tw fun s8 => sm_go (sm_ZZ X) sm_PP true (sm_callM X true (d + 2)) 119 49 [vP (15, 0), vI x1, vI x100, vI o1, vI y3] [] s8) else (sm_go (sm_ZZ X) sm_PP true (sm_callM X true (d + 2)) 119 49 [vP (15, 0), vI x1, vI x100, vI o1, vI y3] [] s6)) := by
  exact bindI (fs_29 F) (fun _ _ F => ft_readAsked_15_s6 F)
theorem ft_readAsked_15_s2 {x1 : Int32} {x100 : Int32} {o1 : Int32} {s2 : sm_S} (F : FS f pl ci O s2) : FI f pl ci O (sm_bI (sm_callM X true (d + 2) 94 [vP (15, 0)] s2) sm_tw fun y3 s4 => sm_bI (sm_callM X true (d + 2) 29 [vI x1, vI y3] s4) sm_tw fun y5 s6 => if y5 = 0 then (sm_bV (sm_callM X true (d + 2) 83 [vP (15, 0), vI 4, vI (s6.1 15 0 7)] s6) sm_tw fun s8 => sm_go (sm_ZZ X) sm_PP true (sm_callM X true (d + 2)) 119 49 [vP (15, 0), vI x1, vI x100, vI o1, vI y3] [] s8) else (sm_go (sm_ZZ X) sm_PP true (sm_callM X true (d + 2)) 119 49 [vP (15, 0), vI x1, vI x100, vI o1, vI y3] [] s6)) := by
  exact bindI (fs_94 F) (fun _ _ F => ft_readAsked_15_s4 F)
theorem fg_readAsked_15 {x1 : Int32} {d2 : sm_V} {d3 : sm_V} {d4 : sm_V} {x100 : Int32} (F : FS f pl ci O s) : FI f pl ci O (sm_go (sm_ZZ X) sm_PP true (sm_callM X true (d + 2)) 119 15 [vP (15, 0), vI x1, d2, d3, d4] [vI x100] s) := by
  rw [q_X5_readAsked_15]
  exact bindV (fs_84 F) (fun _ F => ft_readAsked_15_s2 F)
theorem fs_119 {x1 : Int32} (F : FS f pl ci O s) : FI f pl ci O (sm_callM X true (d + 3) 119 [vP (15, 0), vI x1] s) := by
  rw [f_X5_readAsked, q_X5_readAsked_0]
  refine ifF (FS.kn F (by decide)) ?_
  exact fg_readAsked_15 F
theorem ft_readBlock_38_s4 {s4 : sm_S} (F : FS f pl ci O s4) : FV f pl ci O (some (some none, s4)) := by
  exact fv_ret F
theorem ft_readBlock_38_s2 {x2 : Int32} {s2 : sm_S} (F : FS f pl ci O s2) : FV f pl ci O (sm_bV (sm_callM X true (d + 2) 78 [vP (14, 0), vI x2] s2) sm_tw fun s4 => some (some none, s4)) := by
  exact bindV (fs_78 F) (fun _ F => ft_readBlock_38_s4 F)
theorem ft_readBlock_38_s14 {s14 : sm_S} (F : FS f pl ci O s14) : FV f pl ci O (some (some none, s14)) := by
  exact fv_ret F
theorem ft_readBlock_38_s12 {x2 : Int32} {s12 : sm_S} (F : FS f pl ci O s12) : FV f pl ci O (sm_bV (sm_callM X true (d + 2) 78 [vP (14, 0), vI x2] s12) sm_tw fun s14 => some (some none, s14)) := by
  exact bindV (fs_78 F) (fun _ F => ft_readBlock_38_s14 F)
theorem fg_readBlock_38 {x1 : Int32} {x2 : Int32} {x3 : Int32} (F : FS f pl ci O s) : FV f pl ci O (sm_go (sm_ZZ X) sm_PP true (sm_callM X true (d + 2)) 95 38 [vP (15, 0), vI x1, vI x2, vI x3] [] s) := by
  rw [q_X5_readBlock_38]
  refine ifB ?_ ?_
  · exact bindV (fs_86 F) (fun _ F => ft_readBlock_38_s2 F)
  · refine ifF (FS.fn F) ?_
    exact bindV (fs_86 F) (fun _ F => ft_readBlock_38_s12 F)
theorem ft_readBlock_15_s6 {x1 : Int32} {y5 : Int32} {s6 : sm_S} (F : FS f pl ci O s6) : FV f pl ci O (sm_go (sm_ZZ X) sm_PP true (sm_callM X true (d + 2)) 95 38 [vP (15, 0), vI x1, vI y5, vI 0] [] s6) := by
  exact fg_readBlock_38 F
theorem ft_readBlock_15_s4 {x1 : Int32} {s4 : sm_S} (F : FS f pl ci O s4) : FV f pl ci O (sm_bI (sm_callM X true (d + 2) 77 [vP (14, 0)] s4) sm_tw fun y5 s6 => sm_go (sm_ZZ X) sm_PP true (sm_callM X true (d + 2)) 95 38 [vP (15, 0), vI x1, vI y5, vI 0] [] s6) := by
  exact bindI (fs_77 F) (fun _ _ F => ft_readBlock_15_s6 F)
theorem ft_readBlock_15_s2 {x1 : Int32} {s2 : sm_S} (F : FS f pl ci O s2) : FV f pl ci O (sm_bV (sm_callM X true (d + 2) 84 [vP (15, 0)] s2) sm_tw fun s4 => sm_bI (sm_callM X true (d + 2) 77 [vP (14, 0)] s4) sm_tw fun y5 s6 => sm_go (sm_ZZ X) sm_PP true (sm_callM X true (d + 2)) 95 38 [vP (15, 0), vI x1, vI y5, vI 0] [] s6) := by
  exact bindV (fs_84 F) (fun _ F => ft_readBlock_15_s4 F)
theorem fg_readBlock_15 {x1 : Int32} {d2 : sm_V} {d3 : sm_V} (F : FS f pl ci O s) : FV f pl ci O (sm_go (sm_ZZ X) sm_PP true (sm_callM X true (d + 2)) 95 15 [vP (15, 0), vI x1, d2, d3] [] s) := by
  rw [q_X5_readBlock_15]
  exact bindV (fs_83 F) (fun _ F => ft_readBlock_15_s2 F)
theorem fs_95 {x1 : Int32} (F : FS f pl ci O s) : FV f pl ci O (sm_callM X true (d + 3) 95 [vP (15, 0), vI x1] s) := by
  rw [f_X5_readBlock, q_X5_readBlock_0]
  refine ifF (FS.kn F (by decide)) ?_
  exact fg_readBlock_15 F
theorem ft_readVar_0_s18 {s18 : sm_S} (F : FS f pl ci O s18) : FV f pl ci O (some (some none, s18)) := by
  exact fv_ret F
theorem ft_readVar_0_s16 {y5 : Int32} {o1 : Int32} {s16 : sm_S} (F : FS f pl ci O s16) : FV f pl ci O (if (s16.2.2.1 15 0 3).1 = 10 then (sm_bI (sm_callM X true (d + 6) 13 [vP (s16.2.2.1 15 0 3), vI 6, vI y5, vI o1] s16) sm_tw fun y17 s18 => some (some none, s18)) else (none)) := by
  refine ifT (FS.cd F) ?_
  exact bindI (fs_13 F) (fun _ _ F => ft_readVar_0_s18 F)
theorem ft_readVar_0_s14 {y5 : Int32} {o1 : Int32} {s14 : sm_S} (F : FS f pl ci O s14) : FV f pl ci O (sm_bV (sm_callM X true (d + 6) 76 [vP (14, 0), vI y5] s14) sm_tw fun s16 => if (s16.2.2.1 15 0 3).1 = 10 then (sm_bI (sm_callM X true (d + 6) 13 [vP (s16.2.2.1 15 0 3), vI 6, vI y5, vI o1] s16) sm_tw fun y17 s18 => some (some none, s18)) else (none)) := by
  exact bindV (fs_76 F) (fun _ F => ft_readVar_0_s16 F)
theorem ft_readVar_0_s12 {y11 : Int32} {y5 : Int32} {o1 : Int32} {s12 : sm_S} (F : FS f pl ci O s12) : FV f pl ci O (sm_bV (sm_callM X true (d + 6) 85 [vP (15, 0), vI 59, vI y11] s12) sm_tw fun s14 => sm_bV (sm_callM X true (d + 6) 76 [vP (14, 0), vI y5] s14) sm_tw fun s16 => if (s16.2.2.1 15 0 3).1 = 10 then (sm_bI (sm_callM X true (d + 6) 13 [vP (s16.2.2.1 15 0 3), vI 6, vI y5, vI o1] s16) sm_tw fun y17 s18 => some (some none, s18)) else (none)) := by
  exact bindV (fs_85 F) (fun _ F => ft_readVar_0_s14 F)
theorem ft_readVar_0_s10 {y9 : Int32} {y3 : Int32} {y5 : Int32} {o1 : Int32} {s10 : sm_S} (F : FS f pl ci O s10) : FV f pl ci O (sm_bI (sm_callM X true (d + 6) 28 [vI y9, vI y3] s10) sm_tw fun y11 s12 => sm_bV (sm_callM X true (d + 6) 85 [vP (15, 0), vI 59, vI y11] s12) sm_tw fun s14 => sm_bV (sm_callM X true (d + 6) 76 [vP (14, 0), vI y5] s14) sm_tw fun s16 => if (s16.2.2.1 15 0 3).1 = 10 then (sm_bI (sm_callM X true (d + 6) 13 [vP (s16.2.2.1 15 0 3), vI 6, vI y5, vI o1] s16) sm_tw fun y17 s18 => some (some none, s18)) else (none)) := by
  exact bindI (fs_28 F) (fun _ _ F => ft_readVar_0_s12 F)
theorem ft_readVar_0_s8 {y3 : Int32} {y5 : Int32} {o1 : Int32} {s8 : sm_S} (F : FS f pl ci O s8) : FV f pl ci O (sm_bI (sm_callM X true (d + 6) 106 [vP (15, 0), vI 0] s8) sm_tw fun y9 s10 => sm_bI (sm_callM X true (d + 6) 28 [vI y9, vI y3] s10) sm_tw fun y11 s12 => sm_bV (sm_callM X true (d + 6) 85 [vP (15, 0), vI 59, vI y11] s12) sm_tw fun s14 => sm_bV (sm_callM X true (d + 6) 76 [vP (14, 0), vI y5] s14) sm_tw fun s16 => if (s16.2.2.1 15 0 3).1 = 10 then (sm_bI (sm_callM X true (d + 6) 13 [vP (s16.2.2.1 15 0 3), vI 6, vI y5, vI o1] s16) sm_tw fun y17 s18 => some (some none, s18)) else (none)) := by
  exact bindI (fs_106 F) (fun _ _ F => ft_readVar_0_s10 F)
theorem ft_readVar_0_s6 {y3 : Int32} {y5 : Int32} {s6 : sm_S} (F : FS f pl ci O s6) : FV f pl ci O (sm_bV (sm_callM X true (d + 6) 86 [vP (15, 0), vI 61] s6) sm_tw fun s8 => sm_bI (sm_callM X true (d + 6) 106 [vP (15, 0), vI 0] s8) sm_tw fun y9 s10 => sm_bI (sm_callM X true (d + 6) 28 [vI y9, vI y3] s10) sm_tw fun y11 s12 => sm_bV (sm_callM X true (d + 6) 85 [vP (15, 0), vI 59, vI y11] s12) sm_tw fun s14 => sm_bV (sm_callM X true (d + 6) 76 [vP (14, 0), vI y5] s14) sm_tw fun s16 => if (s16.2.2.1 15 0 3).1 = 10 then (sm_bI (sm_callM X true (d + 6) 13 [vP (s16.2.2.1 15 0 3), vI 6, vI y5, vI (s6.1 15 0 7)] s16) sm_tw fun y17 s18 => some (some none, s18)) else (none)) := by
  exact bindV (fs_86 F) (fun _ F => ft_readVar_0_s8 F)
theorem ft_readVar_0_s4 {y3 : Int32} {s4 : sm_S} (F : FS f pl ci O s4) : FV f pl ci O (sm_bI (sm_callM X true (d + 6) 92 [vP (15, 0), vI y3, vI 0] s4) sm_tw fun y5 s6 => sm_bV (sm_callM X true (d + 6) 86 [vP (15, 0), vI 61] s6) sm_tw fun s8 => sm_bI (sm_callM X true (d + 6) 106 [vP (15, 0), vI 0] s8) sm_tw fun y9 s10 => sm_bI (sm_callM X true (d + 6) 28 [vI y9, vI y3] s10) sm_tw fun y11 s12 => sm_bV (sm_callM X true (d + 6) 85 [vP (15, 0), vI 59, vI y11] s12) sm_tw fun s14 => sm_bV (sm_callM X true (d + 6) 76 [vP (14, 0), vI y5] s14) sm_tw fun s16 => if (s16.2.2.1 15 0 3).1 = 10 then (sm_bI (sm_callM X true (d + 6) 13 [vP (s16.2.2.1 15 0 3), vI 6, vI y5, vI (s6.1 15 0 7)] s16) sm_tw fun y17 s18 => some (some none, s18)) else (none)) := by
  exact bindI (fs_92 F) (fun _ _ F => ft_readVar_0_s6 F)
theorem ft_readVar_0_s2 {s2 : sm_S} (F : FS f pl ci O s2) : FV f pl ci O (sm_bI (sm_callM X true (d + 6) 93 [vP (15, 0)] s2) sm_tw fun y3 s4 => sm_bI (sm_callM X true (d + 6) 92 [vP (15, 0), vI y3, vI 0] s4) sm_tw fun y5 s6 => sm_bV (sm_callM X true (d + 6) 86 [vP (15, 0), vI 61] s6) sm_tw fun s8 => sm_bI (sm_callM X true (d + 6) 106 [vP (15, 0), vI 0] s8) sm_tw fun y9 s10 => sm_bI (sm_callM X true (d + 6) 28 [vI y9, vI y3] s10) sm_tw fun y11 s12 => sm_bV (sm_callM X true (d + 6) 85 [vP (15, 0), vI 59, vI y11] s12) sm_tw fun s14 => sm_bV (sm_callM X true (d + 6) 76 [vP (14, 0), vI y5] s14) sm_tw fun s16 => if (s16.2.2.1 15 0 3).1 = 10 then (sm_bI (sm_callM X true (d + 6) 13 [vP (s16.2.2.1 15 0 3), vI 6, vI y5, vI (s6.1 15 0 7)] s16) sm_tw fun y17 s18 => some (some none, s18)) else (none)) := by
  exact bindI (fs_93 F) (fun _ _ F => ft_readVar_0_s4 F)
theorem fs_97 (F : FS f pl ci O s) : FV f pl ci O (sm_callM X true (d + 7) 97 [vP (15, 0)] s) := by
  rw [f_X5_readVar, q_X5_readVar_0]
  exact bindV (fs_84 F) (fun _ F => ft_readVar_0_s2 F)
theorem ft_readPlaceOrCall_0_s6 {s6 : sm_S} (F : FS f pl ci O s6) : FV f pl ci O (some (some none, s6)) := by
  exact fv_ret F
theorem ft_readPlaceOrCall_0_s4 {s4 : sm_S} (F : FS f pl ci O s4) : FV f pl ci O (if (s4.2.2.1 15 0 3).1 = 10 then (sm_bI (sm_callM X true (d + 6) 13 [vP (s4.2.2.1 15 0 3), vI 1, vI 0, vI (-1)] s4) sm_tw fun y5 s6 => some (some none, s6)) else (none)) := by
  refine ifT (FS.cd F) ?_
  exact bindI (fs_13 F) (fun _ _ F => ft_readPlaceOrCall_0_s6 F)
theorem ft_readPlaceOrCall_0_s14 {s14 : sm_S} (F : FS f pl ci O s14) : FV f pl ci O (some (some none, s14)) := by
  exact fv_ret F
theorem ft_readPlaceOrCall_0_s2 {y1 : Int32} {s2 : sm_S} (F : FS f pl ci O s2) : FV f pl ci O (if (s2.1 15 0 10) = 1 then (sm_bV (sm_callM X true (d + 6) 86 [vP (15, 0), vI 59] s2) sm_tw fun s4 => if (s4.2.2.1 15 0 3).1 = 10 then (sm_bI (sm_callM X true (d + 6) 13 [vP (s4.2.2.1 15 0 3), vI 1, vI 0, vI (-1)] s4) sm_tw fun y5 s6 => some (some none, s6)) else (none)) else (if (s2.1 15 0 6) = 61 then (if (s2.1 15 0 10) = 4 then (sm_bV (sm_callM X true (d + 6) 83 [vP (15, 0), vI 1, vI (s2.1 15 0 7)] s2) sm_tw fun s8 => some (some none, s8)) else (if (s2.2.2.1 15 0 3).1 = 10 then (sm_bI (sm_callM X true (d + 6) 14 [vP (s2.2.2.1 15 0 3)] s2) sm_tw fun y9 s10 => if (s2.1 15 0 10) = 3 then (sm_bI (sm_callM X true (d + 6) 148 [vI y9] s10) sm_tw fun y11 s12 => if y11 = 0 then (sm_go (sm_ZZ X) sm_PP true (sm_callM X true (d + 6)) 98 92 [vP (15, 0), vI y1, vI (s2.1 15 0 10), vI y9, vI (s10.1 15 0 7), vU] [vI 1, vI 61, vP (15, 0)] s12) else (sm_go (sm_ZZ X) sm_PP true (sm_callM X true (d + 6)) 98 92 [vP (15, 0), vI y1, vI (s2.1 15 0 10), vI y9, vI (s10.1 15 0 7), vU] [vI 0, vI 61, vP (15, 0)] s12)) else (sm_go (sm_ZZ X) sm_PP true (sm_callM X true (d + 6)) 98 92 [vP (15, 0), vI y1, vI (s2.1 15 0 10), vI y9, vI (s10.1 15 0 7), vU] [vI 1, vI 61, vP (15, 0)] s10)) else (none))) else (sm_bV (sm_callM X true (d + 6) 83 [vP (15, 0), vI 1, vI (s2.1 15 0 7)] s2) sm_tw fun s14 => some (some none, s14)))) := by
  refine ifB ?_ ?_
  · exact bindV (fs_86 F) (fun _ F => ft_readPlaceOrCall_0_s4 F)
  · refine ifF (FS.kn F (by decide)) ?_
    exact bindV (fs_83 F) (fun _ F => ft_readPlaceOrCall_0_s14 F)
theorem fs_98 (F : FS f pl ci O s) : FV f pl ci O (sm_callM X true (d + 7) 98 [vP (15, 0)] s) := by
  rw [f_X5_readPlaceOrCall, q_X5_readPlaceOrCall_0]
  exact bindI (fs_110 F) (fun _ _ F => ft_readPlaceOrCall_0_s2 F)
theorem ft_readPlaceOrCall_92_s10 {s10 : sm_S} (F : FS f pl ci O s10) : FV f pl ci O (some (some none, s10)) := by
  exact fv_ret F
theorem ft_readPlaceOrCall_92_s12 {s12 : sm_S} (F : FS f pl ci O s12) : FV f pl ci O (some (some none, s12)) := by
  exact fv_ret F
theorem ft_readPlaceOrCall_92_s14 {s14 : sm_S} (F : FS f pl ci O s14) : FV f pl ci O (some (some none, s14)) := by
  exact fv_ret F
theorem ft_readPlaceOrCall_92_s8 {x2 : Int32} {x3 : Int32} {x4 : Int32} {s8 : sm_S} (F : FS f pl ci O s8) : FV f pl ci O (if x2 = 0 then (if (s8.2.2.1 15 0 3).1 = 10 then (sm_bI (sm_callM X true (d + 6) 13 [vP (s8.2.2.1 15 0 3), vI 6, vI x3, vI x4] s8) sm_tw fun y9 s10 => some (some none, s10)) else (none)) else (if x2 = 3 then (if (s8.2.2.1 15 0 3).1 = 10 then (sm_bI (sm_callM X true (d + 6) 13 [vP (s8.2.2.1 15 0 3), vI 18, vI x3, vI x4] s8) sm_tw fun y11 s12 => some (some none, s12)) else (none)) else (if (s8.2.2.1 15 0 3).1 = 10 then (sm_bI (sm_callM X true (d + 6) 13 [vP (s8.2.2.1 15 0 3), vI 16, vI x3, vI x4] s8) sm_tw fun y13 s14 => some (some none, s14)) else (none)))) := by
  refine ifB ?_ ?_
  · refine ifT (FS.cd F) ?_
    exact bindI (fs_13 F) (fun _ _ F => ft_readPlaceOrCall_92_s10 F)
  · refine ifB ?_ ?_
    · refine ifT (FS.cd F) ?_
      exact bindI (fs_13 F) (fun _ _ F => ft_readPlaceOrCall_92_s12 F)
    · refine ifT (FS.cd F) ?_
      exact bindI (fs_13 F) (fun _ _ F => ft_readPlaceOrCall_92_s14 F)
theorem ft_readPlaceOrCall_92_s6 {y5 : Int32} {x2 : Int32} {x3 : Int32} {x4 : Int32} {s6 : sm_S} (F : FS f pl ci O s6) : FV f pl ci O (sm_bV (sm_callM X true (d + 6) 85 [vP (15, 0), vI 59, vI y5] s6) sm_tw fun s8 => if x2 = 0 then (if (s8.2.2.1 15 0 3).1 = 10 then (sm_bI (sm_callM X true (d + 6) 13 [vP (s8.2.2.1 15 0 3), vI 6, vI x3, vI x4] s8) sm_tw fun y9 s10 => some (some none, s10)) else (none)) else (if x2 = 3 then (if (s8.2.2.1 15 0 3).1 = 10 then (sm_bI (sm_callM X true (d + 6) 13 [vP (s8.2.2.1 15 0 3), vI 18, vI x3, vI x4] s8) sm_tw fun y11 s12 => some (some none, s12)) else (none)) else (if (s8.2.2.1 15 0 3).1 = 10 then (sm_bI (sm_callM X true (d + 6) 13 [vP (s8.2.2.1 15 0 3), vI 16, vI x3, vI x4] s8) sm_tw fun y13 s14 => some (some none, s14)) else (none)))) := by
  exact bindV (fs_85 F) (fun _ F => ft_readPlaceOrCall_92_s8 F)
theorem ft_readPlaceOrCall_92_s4 {y3 : Int32} {x1 : Int32} {x2 : Int32} {x3 : Int32} {x4 : Int32} {s4 : sm_S} (F : FS f pl ci O s4) : FV f pl ci O (sm_bI (sm_callM X true (d + 6) 28 [vI y3, vI x1] s4) sm_tw fun y5 s6 => sm_bV (sm_callM X true (d + 6) 85 [vP (15, 0), vI 59, vI y5] s6) sm_tw fun s8 => if x2 = 0 then (if (s8.2.2.1 15 0 3).1 = 10 then (sm_bI (sm_callM X true (d + 6) 13 [vP (s8.2.2.1 15 0 3), vI 6, vI x3, vI x4] s8) sm_tw fun y9 s10 => some (some none, s10)) else (none)) else (if x2 = 3 then (if (s8.2.2.1 15 0 3).1 = 10 then (sm_bI (sm_callM X true (d + 6) 13 [vP (s8.2.2.1 15 0 3), vI 18, vI x3, vI x4] s8) sm_tw fun y11 s12 => some (some none, s12)) else (none)) else (if (s8.2.2.1 15 0 3).1 = 10 then (sm_bI (sm_callM X true (d + 6) 13 [vP (s8.2.2.1 15 0 3), vI 16, vI x3, vI x4] s8) sm_tw fun y13 s14 => some (some none, s14)) else (none)))) := by
  exact bindI (fs_28 F) (fun _ _ F => ft_readPlaceOrCall_92_s6 F)
theorem ft_readPlaceOrCall_92_s2 {x1 : Int32} {x2 : Int32} {x3 : Int32} {x4 : Int32} {s2 : sm_S} (F : FS f pl ci O s2) : FV f pl ci O (sm_bI (sm_callM X true (d + 6) 106 [vP (15, 0), vI 0] s2) sm_tw fun y3 s4 => sm_bI (sm_callM X true (d + 6) 28 [vI y3, vI x1] s4) sm_tw fun y5 s6 => sm_bV (sm_callM X true (d + 6) 85 [vP (15, 0), vI 59, vI y5] s6) sm_tw fun s8 => if x2 = 0 then (if (s8.2.2.1 15 0 3).1 = 10 then (sm_bI (sm_callM X true (d + 6) 13 [vP (s8.2.2.1 15 0 3), vI 6, vI x3, vI x4] s8) sm_tw fun y9 s10 => some (some none, s10)) else (none)) else (if x2 = 3 then (if (s8.2.2.1 15 0 3).1 = 10 then (sm_bI (sm_callM X true (d + 6) 13 [vP (s8.2.2.1 15 0 3), vI 18, vI x3, vI x4] s8) sm_tw fun y11 s12 => some (some none, s12)) else (none)) else (if (s8.2.2.1 15 0 3).1 = 10 then (sm_bI (sm_callM X true (d + 6) 13 [vP (s8.2.2.1 15 0 3), vI 16, vI x3, vI x4] s8) sm_tw fun y13 s14 => some (some none, s14)) else (none)))) := by
  exact bindI (fs_106 F) (fun _ _ F => ft_readPlaceOrCall_92_s4 F)
theorem fg_readPlaceOrCall_92 {x1 : Int32} {x2 : Int32} {x3 : Int32} {x4 : Int32} {d5 : sm_V} {x101 : Int32} {x102 : Int32} (F : FS f pl ci O s) : FV f pl ci O (sm_go (sm_ZZ X) sm_PP true (sm_callM X true (d + 6)) 98 92 [vP (15, 0), vI x1, vI x2, vI x3, vI x4, d5] [vI x102, vI x101, vP (15, 0)] s) := by
  rw [q_X5_readPlaceOrCall_92]
  refine ifT rfl ?_
  exact bindV (fs_85 F) (fun _ F => ft_readPlaceOrCall_92_s2 F)
theorem ft_readIf_0_s18 {s18 : sm_S} (F : FS f pl ci O s18) : FV f pl ci O (some (some none, s18)) := by
  exact fv_ret F
theorem ft_readIf_0_s6 {y3 : Int32} {x1 : Int32} {s6 : sm_S} (F : FS f pl ci O s6) : FV f pl ci O (if (s6.1 15 0 6) = 203 then (sm_bV (sm_callM X true (d + 7) 84 [vP (15, 0)] s6) sm_tw fun s8 => if (s8.2.2.1 15 0 3).1 = 10 then (sm_bI (sm_callM X true (d + 7) 13 [vP (s8.2.2.1 15 0 3), vI 0, vI 0, vI (-1)] s8) sm_tw fun y9 s10 => if (s10.2.2.1 15 0 3).1 = 10 then (sm_bV (sm_callM X true (d + 7) 15 [vP (s10.2.2.1 15 0 3), vI y3] s10) sm_tw fun s12 => sm_bV (sm_callM X true (d + 7) 95 [vP (15, 0), vI x1] s12) sm_tw fun s14 => if (s14.2.2.1 15 0 3).1 = 10 then (sm_bV (sm_callM X true (d + 7) 15 [vP (s14.2.2.1 15 0 3), vI y9] s14) sm_tw fun s16 => some (some none, s16)) else (none)) else (none)) else (none)) else (if (s6.2.2.1 15 0 3).1 = 10 then (sm_bV (sm_callM X true (d + 7) 15 [vP (s6.2.2.1 15 0 3), vI y3] s6) sm_tw fun s18 => some (some none, s18)) else (none))) := by
  refine ifF (FS.kn F (by decide)) ?_
  refine ifT (FS.cd F) ?_
  exact bindV (fs_15 F) (fun _ F => ft_readIf_0_s18 F)
theorem ft_readIf_0_s4 {x1 : Int32} {y3 : Int32} {s4 : sm_S} (F : FS f pl ci O s4) : FV f pl ci O (sm_bV (sm_callM X true (d + 7) 95 [vP (15, 0), vI x1] s4) sm_tw fun s6 => if (s6.1 15 0 6) = 203 then (sm_bV (sm_callM X true (d + 7) 84 [vP (15, 0)] s6) sm_tw fun s8 => if (s8.2.2.1 15 0 3).1 = 10 then (sm_bI (sm_callM X true (d + 7) 13 [vP (s8.2.2.1 15 0 3), vI 0, vI 0, vI (-1)] s8) sm_tw fun y9 s10 => if (s10.2.2.1 15 0 3).1 = 10 then (sm_bV (sm_callM X true (d + 7) 15 [vP (s10.2.2.1 15 0 3), vI y3] s10) sm_tw fun s12 => sm_bV (sm_callM X true (d + 7) 95 [vP (15, 0), vI x1] s12) sm_tw fun s14 => if (s14.2.2.1 15 0 3).1 = 10 then (sm_bV (sm_callM X true (d + 7) 15 [vP (s14.2.2.1 15 0 3), vI y9] s14) sm_tw fun s16 => some (some none, s16)) else (none)) else (none)) else (none)) else (if (s6.2.2.1 15 0 3).1 = 10 then (sm_bV (sm_callM X true (d + 7) 15 [vP (s6.2.2.1 15 0 3), vI y3] s6) sm_tw fun s18 => some (some none, s18)) else (none))) := by
  exact bindV (fs_95 F) (fun _ F => ft_readIf_0_s6 F)
theorem ft_readIf_0_s2 {x1 : Int32} {o1 : Int32} {s2 : sm_S} (F : FS f pl ci O s2) : FV f pl ci O (sm_bI (sm_callM X true (d + 7) 99 [vP (15, 0), vI o1] s2) sm_tw fun y3 s4 => sm_bV (sm_callM X true (d + 7) 95 [vP (15, 0), vI x1] s4) sm_tw fun s6 => if (s6.1 15 0 6) = 203 then (sm_bV (sm_callM X true (d + 7) 84 [vP (15, 0)] s6) sm_tw fun s8 => if (s8.2.2.1 15 0 3).1 = 10 then (sm_bI (sm_callM X true (d + 7) 13 [vP (s8.2.2.1 15 0 3), vI 0, vI 0, vI (-1)] s8) sm_tw fun y9 s10 => if (s10.2.2.1 15 0 3).1 = 10 then (sm_bV (sm_callM X true (d + 7) 15 [vP (s10.2.2.1 15 0 3), vI y3] s10) sm_tw fun s12 => sm_bV (sm_callM X true (d + 7) 95 [vP (15, 0), vI x1] s12) sm_tw fun s14 => if (s14.2.2.1 15 0 3).1 = 10 then (sm_bV (sm_callM X true (d + 7) 15 [vP (s14.2.2.1 15 0 3), vI y9] s14) sm_tw fun s16 => some (some none, s16)) else (none)) else (none)) else (none)) else (if (s6.2.2.1 15 0 3).1 = 10 then (sm_bV (sm_callM X true (d + 7) 15 [vP (s6.2.2.1 15 0 3), vI y3] s6) sm_tw fun s18 => some (some none, s18)) else (none))) := by
  exact bindI (fs_99 F) (fun _ _ F => ft_readIf_0_s4 F)
theorem fs_100 {x1 : Int32} (F : FS f pl ci O s) : FV f pl ci O (sm_callM X true (d + 8) 100 [vP (15, 0), vI x1] s) := by
  rw [f_X5_readIf, q_X5_readIf_0]
  exact bindV (fs_84 F) (fun _ F => ft_readIf_0_s2 F)
theorem ft_readWhile_0_s11 {s11 : sm_S} (F : FS f pl ci O s11) : FV f pl ci O (some (some none, s11)) := by
  exact fv_ret F
theorem ft_readWhile_0_s9 {y4 : Int32} {s9 : sm_S} (F : FS f pl ci O s9) : FV f pl ci O (if (s9.2.2.1 15 0 3).1 = 10 then (sm_bV (sm_callM X true (d + 7) 15 [vP (s9.2.2.1 15 0 3), vI y4] s9) sm_tw fun s11 => some (some none, s11)) else (none)) := by
  refine ifT (FS.cd F) ?_
  exact bindV (fs_15 F) (fun _ F => ft_readWhile_0_s11 F)
theorem ft_readWhile_0_s7 {y4 : Int32} {o1 : Int32} {s7 : sm_S} (F : FS f pl ci O s7) : FV f pl ci O (if (s7.2.2.1 15 0 3).1 = 10 then (sm_bI (sm_callM X true (d + 7) 13 [vP (s7.2.2.1 15 0 3), vI 0, vI o1, vI (-1)] s7) sm_tw fun y8 s9 => if (s9.2.2.1 15 0 3).1 = 10 then (sm_bV (sm_callM X true (d + 7) 15 [vP (s9.2.2.1 15 0 3), vI y4] s9) sm_tw fun s11 => some (some none, s11)) else (none)) else (none)) := by
  refine ifT (FS.cd F) ?_
  exact bindI (fs_13 F) (fun _ _ F => ft_readWhile_0_s9 F)
theorem ft_readWhile_0_s5 {x1 : Int32} {y4 : Int32} {o1 : Int32} {s5 : sm_S} (F : FS f pl ci O s5) : FV f pl ci O (sm_bV (sm_callM X true (d + 7) 95 [vP (15, 0), vI x1] s5) sm_tw fun s7 => if (s7.2.2.1 15 0 3).1 = 10 then (sm_bI (sm_callM X true (d + 7) 13 [vP (s7.2.2.1 15 0 3), vI 0, vI o1, vI (-1)] s7) sm_tw fun y8 s9 => if (s9.2.2.1 15 0 3).1 = 10 then (sm_bV (sm_callM X true (d + 7) 15 [vP (s9.2.2.1 15 0 3), vI y4] s9) sm_tw fun s11 => some (some none, s11)) else (none)) else (none)) := by
  exact bindV (fs_95 F) (fun _ F => ft_readWhile_0_s7 F)
theorem ft_readWhile_0_s3 {x1 : Int32} {o1 : Int32} {o2 : Int32} {s3 : sm_S} (F : FS f pl ci O s3) : FV f pl ci O (sm_bI (sm_callM X true (d + 7) 99 [vP (15, 0), vI o1] s3) sm_tw fun y4 s5 => sm_bV (sm_callM X true (d + 7) 95 [vP (15, 0), vI x1] s5) sm_tw fun s7 => if (s7.2.2.1 15 0 3).1 = 10 then (sm_bI (sm_callM X true (d + 7) 13 [vP (s7.2.2.1 15 0 3), vI 0, vI o2, vI (-1)] s7) sm_tw fun y8 s9 => if (s9.2.2.1 15 0 3).1 = 10 then (sm_bV (sm_callM X true (d + 7) 15 [vP (s9.2.2.1 15 0 3), vI y4] s9) sm_tw fun s11 => some (some none, s11)) else (none)) else (none)) := by
  exact bindI (fs_99 F) (fun _ _ F => ft_readWhile_0_s5 F)
theorem fs_101 {x1 : Int32} (F : FS f pl ci O s) : FV f pl ci O (sm_callM X true (d + 8) 101 [vP (15, 0), vI x1] s) := by
  rw [f_X5_readWhile, q_X5_readWhile_0]
  refine rqF F ?_
  exact bindV (fs_84 F) (fun _ F => ft_readWhile_0_s3 F)
theorem ft_readTry_0_s33 {s33 : sm_S} (F : FS f pl ci O s33) : FV f pl ci O (some (some none, s33)) := by
  exact fv_ret F
theorem ft_readTry_0_s31 {y10 : Int32} {s31 : sm_S} (F : FS f pl ci O s31) : FV f pl ci O (if (s31.2.2.1 15 0 3).1 = 10 then (sm_bV (sm_callM X true (d + 3) 15 [vP (s31.2.2.1 15 0 3), vI y10] s31) sm_tw fun s33 => some (some none, s33)) else (none)) := by
  refine ifT (FS.cd F) ?_
  exact bindV (fs_15 F) (fun _ F => ft_readTry_0_s33 F)
theorem ft_readTry_0_s29 {y24 : Int32} {y10 : Int32} {s29 : sm_S} (F : FS f pl ci O s29) : FV f pl ci O (sm_bV (sm_callM X true (d + 3) 78 [vP (14, 0), vI y24] s29) sm_tw fun s31 => if (s31.2.2.1 15 0 3).1 = 10 then (sm_bV (sm_callM X true (d + 3) 15 [vP (s31.2.2.1 15 0 3), vI y10] s31) sm_tw fun s33 => some (some none, s33)) else (none)) := by
  exact bindV (fs_78 F) (fun _ F => ft_readTry_0_s31 F)
theorem ft_readTry_0_s27 {x1 : Int32} {y24 : Int32} {y10 : Int32} {s27 : sm_S} (F : FS f pl ci O s27) : FV f pl ci O (sm_bV (sm_callM X true (d + 3) 95 [vP (15, 0), vI x1] s27) sm_tw fun s29 => sm_bV (sm_callM X true (d + 3) 78 [vP (14, 0), vI y24] s29) sm_tw fun s31 => if (s31.2.2.1 15 0 3).1 = 10 then (sm_bV (sm_callM X true (d + 3) 15 [vP (s31.2.2.1 15 0 3), vI y10] s31) sm_tw fun s33 => some (some none, s33)) else (none)) := by
  exact bindV (fs_95 F) (fun _ F => ft_readTry_0_s29 F)
theorem ft_readTry_0_s25 {y16 : Int32} {x1 : Int32} {y24 : Int32} {y10 : Int32} {s25 : sm_S} (F : FS f pl ci O s25) : FV f pl ci O (sm_bV (sm_callM X true (d + 3) 76 [vP (14, 0), vI y16] s25) sm_tw fun s27 => sm_bV (sm_callM X true (d + 3) 95 [vP (15, 0), vI x1] s27) sm_tw fun s29 => sm_bV (sm_callM X true (d + 3) 78 [vP (14, 0), vI y24] s29) sm_tw fun s31 => if (s31.2.2.1 15 0 3).1 = 10 then (sm_bV (sm_callM X true (d + 3) 15 [vP (s31.2.2.1 15 0 3), vI y10] s31) sm_tw fun s33 => some (some none, s33)) else (none)) := by
  exact bindV (fs_76 F) (fun _ F => ft_readTry_0_s27 F)
theorem ft_readTry_0_s23 {y16 : Int32} {x1 : Int32} {y10 : Int32} {s23 : sm_S} (F : FS f pl ci O s23) : FV f pl ci O (sm_bI (sm_callM X true (d + 3) 77 [vP (14, 0)] s23) sm_tw fun y24 s25 => sm_bV (sm_callM X true (d + 3) 76 [vP (14, 0), vI y16] s25) sm_tw fun s27 => sm_bV (sm_callM X true (d + 3) 95 [vP (15, 0), vI x1] s27) sm_tw fun s29 => sm_bV (sm_callM X true (d + 3) 78 [vP (14, 0), vI y24] s29) sm_tw fun s31 => if (s31.2.2.1 15 0 3).1 = 10 then (sm_bV (sm_callM X true (d + 3) 15 [vP (s31.2.2.1 15 0 3), vI y10] s31) sm_tw fun s33 => some (some none, s33)) else (none)) := by
  exact bindI (fs_77 F) (fun _ _ F => ft_readTry_0_s25 F)
theorem ft_readTry_0_s21 {y16 : Int32} {x1 : Int32} {y10 : Int32} {s21 : sm_S} (F : FS f pl ci O s21) : FV f pl ci O (if (s21.2.2.1 15 0 3).1 = 10 then (sm_bI (sm_callM X true (d + 3) 13 [vP (s21.2.2.1 15 0 3), vI 2, vI y16, vI (-1)] s21) sm_tw fun y22 s23 => sm_bI (sm_callM X true (d + 3) 77 [vP (14, 0)] s23) sm_tw fun y24 s25 => sm_bV (sm_callM X true (d + 3) 76 [vP (14, 0), vI y16] s25) sm_tw fun s27 => sm_bV (sm_callM X true (d + 3) 95 [vP (15, 0), vI x1] s27) sm_tw fun s29 => sm_bV (sm_callM X true (d + 3) 78 [vP (14, 0), vI y24] s29) sm_tw fun s31 => if (s31.2.2.1 15 0 3).1 = 10 then (sm_bV (sm_callM X true (d + 3) 15 [vP (s31.2.2.1 15 0 3), vI y10] s31) sm_tw fun s33 => some (some none, s33)) else (none)) else (none)) := by
  refine ifT (FS.cd F) ?_
  exact bindI (fs_13 F) (fun _ _ F => ft_readTry_0_s23 F)
theorem ft_readTry_0_s19 {y4 : Int32} {y16 : Int32} {x1 : Int32} {y10 : Int32} {s19 : sm_S} (F : FS f pl ci O s19) : FV f pl ci O (if (s19.2.2.1 15 0 3).1 = 10 then (sm_bV (sm_callM X true (d + 3) 17 [vP (s19.2.2.1 15 0 3), vI y4] s19) sm_tw fun s21 => if (s21.2.2.1 15 0 3).1 = 10 then (sm_bI (sm_callM X true (d + 3) 13 [vP (s21.2.2.1 15 0 3), vI 2, vI y16, vI (-1)] s21) sm_tw fun y22 s23 => sm_bI (sm_callM X true (d + 3) 77 [vP (14, 0)] s23) sm_tw fun y24 s25 => sm_bV (sm_callM X true (d + 3) 76 [vP (14, 0), vI y16] s25) sm_tw fun s27 => sm_bV (sm_callM X true (d + 3) 95 [vP (15, 0), vI x1] s27) sm_tw fun s29 => sm_bV (sm_callM X true (d + 3) 78 [vP (14, 0), vI y24] s29) sm_tw fun s31 => if (s31.2.2.1 15 0 3).1 = 10 then (sm_bV (sm_callM X true (d + 3) 15 [vP (s31.2.2.1 15 0 3), vI y10] s31) sm_tw fun s33 => some (some none, s33)) else (none)) else (none)) else (none)) := by
  refine ifT (FS.cd F) ?_
  exact bindV (fs_17 F) (fun _ F => ft_readTry_0_s21 F)
theorem ft_readTry_0_s17 {y4 : Int32} {y16 : Int32} {x1 : Int32} {y10 : Int32} {s17 : sm_S} (F : FS f pl ci O s17) : FV f pl ci O (sm_bV (sm_callM X true (d + 3) 86 [vP (15, 0), vI 41] s17) sm_tw fun s19 => if (s19.2.2.1 15 0 3).1 = 10 then (sm_bV (sm_callM X true (d + 3) 17 [vP (s19.2.2.1 15 0 3), vI y4] s19) sm_tw fun s21 => if (s21.2.2.1 15 0 3).1 = 10 then (sm_bI (sm_callM X true (d + 3) 13 [vP (s21.2.2.1 15 0 3), vI 2, vI y16, vI (-1)] s21) sm_tw fun y22 s23 => sm_bI (sm_callM X true (d + 3) 77 [vP (14, 0)] s23) sm_tw fun y24 s25 => sm_bV (sm_callM X true (d + 3) 76 [vP (14, 0), vI y16] s25) sm_tw fun s27 => sm_bV (sm_callM X true (d + 3) 95 [vP (15, 0), vI x1] s27) sm_tw fun s29 => sm_bV (sm_callM X true (d + 3) 78 [vP (14, 0), vI y24] s29) sm_tw fun s31 => if (s31.2.2.1 15 0 3).1 = 10 then (sm_bV (sm_callM X true (d + 3) 15 [vP (s31.2.2.1 15 0 3), vI y10] s31) sm_tw fun s33 => some (some none, s33)) else (none)) else (none)) else (none)) := by
  exact bindV (fs_86 F) (fun _ F => ft_readTry_0_s19 F)
theorem ft_readTry_0_s15 {y4 : Int32} {x1 : Int32} {y10 : Int32} {s15 : sm_S} (F : FS f pl ci O s15) : FV f pl ci O (sm_bI (sm_callM X true (d + 3) 92 [vP (15, 0), vI 36, vI 0] s15) sm_tw fun y16 s17 => sm_bV (sm_callM X true (d + 3) 86 [vP (15, 0), vI 41] s17) sm_tw fun s19 => if (s19.2.2.1 15 0 3).1 = 10 then (sm_bV (sm_callM X true (d + 3) 17 [vP (s19.2.2.1 15 0 3), vI y4] s19) sm_tw fun s21 => if (s21.2.2.1 15 0 3).1 = 10 then (sm_bI (sm_callM X true (d + 3) 13 [vP (s21.2.2.1 15 0 3), vI 2, vI y16, vI (-1)] s21) sm_tw fun y22 s23 => sm_bI (sm_callM X true (d + 3) 77 [vP (14, 0)] s23) sm_tw fun y24 s25 => sm_bV (sm_callM X true (d + 3) 76 [vP (14, 0), vI y16] s25) sm_tw fun s27 => sm_bV (sm_callM X true (d + 3) 95 [vP (15, 0), vI x1] s27) sm_tw fun s29 => sm_bV (sm_callM X true (d + 3) 78 [vP (14, 0), vI y24] s29) sm_tw fun s31 => if (s31.2.2.1 15 0 3).1 = 10 then (sm_bV (sm_callM X true (d + 3) 15 [vP (s31.2.2.1 15 0 3), vI y10] s31) sm_tw fun s33 => some (some none, s33)) else (none)) else (none)) else (none)) := by
  exact bindI (fs_92 F) (fun _ _ F => ft_readTry_0_s17 F)
theorem ft_readTry_0_s13 {y4 : Int32} {x1 : Int32} {y10 : Int32} {s13 : sm_S} (F : FS f pl ci O s13) : FV f pl ci O (sm_bV (sm_callM X true (d + 3) 86 [vP (15, 0), vI 40] s13) sm_tw fun s15 => sm_bI (sm_callM X true (d + 3) 92 [vP (15, 0), vI 36, vI 0] s15) sm_tw fun y16 s17 => sm_bV (sm_callM X true (d + 3) 86 [vP (15, 0), vI 41] s17) sm_tw fun s19 => if (s19.2.2.1 15 0 3).1 = 10 then (sm_bV (sm_callM X true (d + 3) 17 [vP (s19.2.2.1 15 0 3), vI y4] s19) sm_tw fun s21 => if (s21.2.2.1 15 0 3).1 = 10 then (sm_bI (sm_callM X true (d + 3) 13 [vP (s21.2.2.1 15 0 3), vI 2, vI y16, vI (-1)] s21) sm_tw fun y22 s23 => sm_bI (sm_callM X true (d + 3) 77 [vP (14, 0)] s23) sm_tw fun y24 s25 => sm_bV (sm_callM X true (d + 3) 76 [vP (14, 0), vI y16] s25) sm_tw fun s27 => sm_bV (sm_callM X true (d + 3) 95 [vP (15, 0), vI x1] s27) sm_tw fun s29 => sm_bV (sm_callM X true (d + 3) 78 [vP (14, 0), vI y24] s29) sm_tw fun s31 => if (s31.2.2.1 15 0 3).1 = 10 then (sm_bV (sm_callM X true (d + 3) 15 [vP (s31.2.2.1 15 0 3), vI y10] s31) sm_tw fun s33 => some (some none, s33)) else (none)) else (none)) else (none)) := by
  exact bindV (fs_86 F) (fun _ F => ft_readTry_0_s15 F)
theorem ft_readTry_0_s11 {y4 : Int32} {x1 : Int32} {y10 : Int32} {s11 : sm_S} (F : FS f pl ci O s11) : FV f pl ci O (sm_bV (sm_callM X true (d + 3) 86 [vP (15, 0), vI 206] s11) sm_tw fun s13 => sm_bV (sm_callM X true (d + 3) 86 [vP (15, 0), vI 40] s13) sm_tw fun s15 => sm_bI (sm_callM X true (d + 3) 92 [vP (15, 0), vI 36, vI 0] s15) sm_tw fun y16 s17 => sm_bV (sm_callM X true (d + 3) 86 [vP (15, 0), vI 41] s17) sm_tw fun s19 => if (s19.2.2.1 15 0 3).1 = 10 then (sm_bV (sm_callM X true (d + 3) 17 [vP (s19.2.2.1 15 0 3), vI y4] s19) sm_tw fun s21 => if (s21.2.2.1 15 0 3).1 = 10 then (sm_bI (sm_callM X true (d + 3) 13 [vP (s21.2.2.1 15 0 3), vI 2, vI y16, vI (-1)] s21) sm_tw fun y22 s23 => sm_bI (sm_callM X true (d + 3) 77 [vP (14, 0)] s23) sm_tw fun y24 s25 => sm_bV (sm_callM X true (d + 3) 76 [vP (14, 0), vI y16] s25) sm_tw fun s27 => sm_bV (sm_callM X true (d + 3) 95 [vP (15, 0), vI x1] s27) sm_tw fun s29 => sm_bV (sm_callM X true (d + 3) 78 [vP (14, 0), vI y24] s29) sm_tw fun s31 => if (s31.2.2.1 15 0 3).1 = 10 then (sm_bV (sm_callM X true (d + 3) 15 [vP (s31.2.2.1 15 0 3), vI y10] s31) sm_tw fun s33 => some (some none, s33)) else (none)) else (none)) else (none)) := by
  exact bindV (fs_86 F) (fun _ F => ft_readTry_0_s13 F)
theorem ft_readTry_0_s8 {y4 : Int32} {x1 : Int32} {o1 : Int32} {s8 : sm_S} (F : FS f pl ci O s8) : FV f pl ci O (sm_rq (s8.2.2.1 15 0 3) 10 fun j9 => if ((sI s8 10 j9 12 o1).2.2.1 15 0 3).1 = 10 then (sm_bI (sm_callM X true (d + 3) 13 [vP ((sI s8 10 j9 12 o1).2.2.1 15 0 3), vI 0, vI 0, vI (-1)] (sI s8 10 j9 12 o1)) sm_tw fun y10 s11 => sm_bV (sm_callM X true (d + 3) 86 [vP (15, 0), vI 206] s11) sm_tw fun s13 => sm_bV (sm_callM X true (d + 3) 86 [vP (15, 0), vI 40] s13) sm_tw fun s15 => sm_bI (sm_callM X true (d + 3) 92 [vP (15, 0), vI 36, vI 0] s15) sm_tw fun y16 s17 => sm_bV (sm_callM X true (d + 3) 86 [vP (15, 0), vI 41] s17) sm_tw fun s19 => if (s19.2.2.1 15 0 3).1 = 10 then (sm_bV (sm_callM X true (d + 3) 17 [vP (s19.2.2.1 15 0 3), vI y4] s19) sm_tw fun s21 => if (s21.2.2.1 15 0 3).1 = 10 then (sm_bI (sm_callM X true (d + 3) 13 [vP (s21.2.2.1 15 0 3), vI 2, vI y16, vI (-1)] s21) sm_tw fun y22 s23 => sm_bI (sm_callM X true (d + 3) 77 [vP (14, 0)] s23) sm_tw fun y24 s25 => sm_bV (sm_callM X true (d + 3) 76 [vP (14, 0), vI y16] s25) sm_tw fun s27 => sm_bV (sm_callM X true (d + 3) 95 [vP (15, 0), vI x1] s27) sm_tw fun s29 => sm_bV (sm_callM X true (d + 3) 78 [vP (14, 0), vI y24] s29) sm_tw fun s31 => if (s31.2.2.1 15 0 3).1 = 10 then (sm_bV (sm_callM X true (d + 3) 15 [vP (s31.2.2.1 15 0 3), vI y10] s31) sm_tw fun s33 => some (some none, s33)) else (none)) else (none)) else (none)) else (none)) := by
  refine rqF F ?_
  refine ifT (FS.cd (FS.op' F)) ?_
  exact bindI (fs_13 (FS.op' F)) (fun _ _ F => ft_readTry_0_s11 F)
theorem ft_readTry_0_s5 {x1 : Int32} {y4 : Int32} {o1 : Int32} {s5 : sm_S} (F : FS f pl ci O s5) : FV f pl ci O (sm_rq (s5.2.2.1 15 0 3) 10 fun j6 => sm_bV (sm_callM X true (d + 3) 95 [vP (15, 0), vI x1] (sI s5 10 j6 12 y4)) sm_tw fun s8 => sm_rq (s8.2.2.1 15 0 3) 10 fun j9 => if ((sI s8 10 j9 12 o1).2.2.1 15 0 3).1 = 10 then (sm_bI (sm_callM X true (d + 3) 13 [vP ((sI s8 10 j9 12 o1).2.2.1 15 0 3), vI 0, vI 0, vI (-1)] (sI s8 10 j9 12 o1)) sm_tw fun y10 s11 => sm_bV (sm_callM X true (d + 3) 86 [vP (15, 0), vI 206] s11) sm_tw fun s13 => sm_bV (sm_callM X true (d + 3) 86 [vP (15, 0), vI 40] s13) sm_tw fun s15 => sm_bI (sm_callM X true (d + 3) 92 [vP (15, 0), vI 36, vI 0] s15) sm_tw fun y16 s17 => sm_bV (sm_callM X true (d + 3) 86 [vP (15, 0), vI 41] s17) sm_tw fun s19 => if (s19.2.2.1 15 0 3).1 = 10 then (sm_bV (sm_callM X true (d + 3) 17 [vP (s19.2.2.1 15 0 3), vI y4] s19) sm_tw fun s21 => if (s21.2.2.1 15 0 3).1 = 10 then (sm_bI (sm_callM X true (d + 3) 13 [vP (s21.2.2.1 15 0 3), vI 2, vI y16, vI (-1)] s21) sm_tw fun y22 s23 => sm_bI (sm_callM X true (d + 3) 77 [vP (14, 0)] s23) sm_tw fun y24 s25 => sm_bV (sm_callM X true (d + 3) 76 [vP (14, 0), vI y16] s25) sm_tw fun s27 => sm_bV (sm_callM X true (d + 3) 95 [vP (15, 0), vI x1] s27) sm_tw fun s29 => sm_bV (sm_callM X true (d + 3) 78 [vP (14, 0), vI y24] s29) sm_tw fun s31 => if (s31.2.2.1 15 0 3).1 = 10 then (sm_bV (sm_callM X true (d + 3) 15 [vP (s31.2.2.1 15 0 3), vI y10] s31) sm_tw fun s33 => some (some none, s33)) else (none)) else (none)) else (none)) else (none)) := by
  refine rqF F ?_
  exact bindV (fs_95 (FS.op' F)) (fun _ F => ft_readTry_0_s8 F)
theorem ft_readTry_0_s2 {x1 : Int32} {s2 : sm_S} (F : FS f pl ci O s2) : FV f pl ci O (sm_rq (s2.2.2.1 15 0 3) 10 fun j3 => if (s2.2.2.1 15 0 3).1 = 10 then (sm_bI (sm_callM X true (d + 3) 16 [vP (s2.2.2.1 15 0 3)] s2) sm_tw fun y4 s5 => sm_rq (s5.2.2.1 15 0 3) 10 fun j6 => sm_bV (sm_callM X true (d + 3) 95 [vP (15, 0), vI x1] (sI s5 10 j6 12 y4)) sm_tw fun s8 => sm_rq (s8.2.2.1 15 0 3) 10 fun j9 => if ((sI s8 10 j9 12 (s2.1 10 j3 12)).2.2.1 15 0 3).1 = 10 then (sm_bI (sm_callM X true (d + 3) 13 [vP ((sI s8 10 j9 12 (s2.1 10 j3 12)).2.2.1 15 0 3), vI 0, vI 0, vI (-1)] (sI s8 10 j9 12 (s2.1 10 j3 12))) sm_tw fun y10 s11 => sm_bV (sm_callM X true (d + 3) 86 [vP (15, 0), vI 206] s11) sm_tw fun s13 => sm_bV (sm_callM X true (d + 3) 86 [vP (15, 0), vI 40] s13) sm_tw fun s15 => sm_bI (sm_callM X true (d + 3) 92 [vP (15, 0), vI 36, vI 0] s15) sm_tw fun y16 s17 => sm_bV (sm_callM X true (d + 3) 86 [vP (15, 0), vI 41] s17) sm_tw fun s19 => if (s19.2.2.1 15 0 3).1 = 10 then (sm_bV (sm_callM X true (d + 3) 17 [vP (s19.2.2.1 15 0 3), vI y4] s19) sm_tw fun s21 => if (s21.2.2.1 15 0 3).1 = 10 then (sm_bI (sm_callM X true (d + 3) 13 [vP (s21.2.2.1 15 0 3), vI 2, vI y16, vI (-1)] s21) sm_tw fun y22 s23 => sm_bI (sm_callM X true (d + 3) 77 [vP (14, 0)] s23) sm_tw fun y24 s25 => sm_bV (sm_callM X true (d + 3) 76 [vP (14, 0), vI y16] s25) sm_tw fun s27 => sm_bV (sm_callM X true (d + 3) 95 [vP (15, 0), vI x1] s27) sm_tw fun s29 => sm_bV (sm_callM X true (d + 3) 78 [vP (14, 0), vI y24] s29) sm_tw fun s31 => if (s31.2.2.1 15 0 3).1 = 10 then (sm_bV (sm_callM X true (d + 3) 15 [vP (s31.2.2.1 15 0 3), vI y10] s31) sm_tw fun s33 => some (some none, s33)) else (none)) else (none)) else (none)) else (none)) else (none)) := by
  refine rqF F ?_
  refine ifT (FS.cd F) ?_
  exact bindI (fs_16 F) (fun _ _ F => ft_readTry_0_s5 F)
theorem fs_102 {x1 : Int32} (F : FS f pl ci O s) : FV f pl ci O (sm_callM X true (d + 4) 102 [vP (15, 0), vI x1] s) := by
  rw [f_X5_readTry, q_X5_readTry_0]
  exact bindV (fs_84 F) (fun _ F => ft_readTry_0_s2 F)
theorem ft_readReturn_0_s20 {s20 : sm_S} (F : FS f pl ci O s20) : FV f pl ci O (some (some none, s20)) := by
  exact fv_ret F
theorem ft_readReturn_0_s18 {o1 : Int32} {s18 : sm_S} (F : FS f pl ci O s18) : FV f pl ci O (if (s18.2.2.1 15 0 3).1 = 10 then (sm_bI (sm_callM X true (d + 6) 13 [vP (s18.2.2.1 15 0 3), vI 24, vI 1, vI o1] s18) sm_tw fun y19 s20 => some (some none, s20)) else (none)) := by
  refine ifT (FS.cd F) ?_
  exact bindI (fs_13 F) (fun _ _ F => ft_readReturn_0_s20 F)
theorem ft_readReturn_0_s16 {y15 : Int32} {o1 : Int32} {s16 : sm_S} (F : FS f pl ci O s16) : FV f pl ci O (sm_bV (sm_callM X true (d + 6) 85 [vP (15, 0), vI 59, vI y15] s16) sm_tw fun s18 => if (s18.2.2.1 15 0 3).1 = 10 then (sm_bI (sm_callM X true (d + 6) 13 [vP (s18.2.2.1 15 0 3), vI 24, vI 1, vI o1] s18) sm_tw fun y19 s20 => some (some none, s20)) else (none)) := by
  exact bindV (fs_85 F) (fun _ F => ft_readReturn_0_s18 F)
theorem ft_readReturn_0_s14 {y13 : Int32} {y1 : Int32} {o1 : Int32} {s14 : sm_S} (F : FS f pl ci O s14) : FV f pl ci O (sm_bI (sm_callM X true (d + 6) 28 [vI y13, vI y1] s14) sm_tw fun y15 s16 => sm_bV (sm_callM X true (d + 6) 85 [vP (15, 0), vI 59, vI y15] s16) sm_tw fun s18 => if (s18.2.2.1 15 0 3).1 = 10 then (sm_bI (sm_callM X true (d + 6) 13 [vP (s18.2.2.1 15 0 3), vI 24, vI 1, vI o1] s18) sm_tw fun y19 s20 => some (some none, s20)) else (none)) := by
  exact bindI (fs_28 F) (fun _ _ F => ft_readReturn_0_s16 F)
theorem ft_readReturn_0_s4 {y1 : Int32} {o1 : Int32} {s4 : sm_S} (F : FS f pl ci O s4) : FV f pl ci O (if (s4.1 15 0 6) = 59 then (if y1 = 38 then (sm_bV (sm_callM X true (d + 6) 85 [vP (15, 0), vI 59, vI 1] s4) sm_tw fun s6 => if (s6.2.2.1 15 0 3).1 = 10 then (sm_bI (sm_callM X true (d + 6) 13 [vP (s6.2.2.1 15 0 3), vI 24, vI 0, vI o1] s6) sm_tw fun y7 s8 => some (some none, s8)) else (none)) else (sm_bV (sm_callM X true (d + 6) 85 [vP (15, 0), vI 59, vI 0] s4) sm_tw fun s10 => if (s10.2.2.1 15 0 3).1 = 10 then (sm_bI (sm_callM X true (d + 6) 13 [vP (s10.2.2.1 15 0 3), vI 24, vI 0, vI o1] s10) sm_tw fun y11 s12 => some (some none, s12)) else (none))) else (sm_bI (sm_callM X true (d + 6) 106 [vP (15, 0), vI 0] s4) sm_tw fun y13 s14 => sm_bI (sm_callM X true (d + 6) 28 [vI y13, vI y1] s14) sm_tw fun y15 s16 => sm_bV (sm_callM X true (d + 6) 85 [vP (15, 0), vI 59, vI y15] s16) sm_tw fun s18 => if (s18.2.2.1 15 0 3).1 = 10 then (sm_bI (sm_callM X true (d + 6) 13 [vP (s18.2.2.1 15 0 3), vI 24, vI 1, vI o1] s18) sm_tw fun y19 s20 => some (some none, s20)) else (none))) := by
  refine ifF (FS.kn F (by decide)) ?_
  exact bindI (fs_106 F) (fun _ _ F => ft_readReturn_0_s14 F)
theorem ft_readReturn_0_s2 {y1 : Int32} {o1 : Int32} {s2 : sm_S} (F : FS f pl ci O s2) : FV f pl ci O (sm_bV (sm_callM X true (d + 6) 84 [vP (15, 0)] s2) sm_tw fun s4 => if (s4.1 15 0 6) = 59 then (if y1 = 38 then (sm_bV (sm_callM X true (d + 6) 85 [vP (15, 0), vI 59, vI 1] s4) sm_tw fun s6 => if (s6.2.2.1 15 0 3).1 = 10 then (sm_bI (sm_callM X true (d + 6) 13 [vP (s6.2.2.1 15 0 3), vI 24, vI 0, vI o1] s6) sm_tw fun y7 s8 => some (some none, s8)) else (none)) else (sm_bV (sm_callM X true (d + 6) 85 [vP (15, 0), vI 59, vI 0] s4) sm_tw fun s10 => if (s10.2.2.1 15 0 3).1 = 10 then (sm_bI (sm_callM X true (d + 6) 13 [vP (s10.2.2.1 15 0 3), vI 24, vI 0, vI o1] s10) sm_tw fun y11 s12 => some (some none, s12)) else (none))) else (sm_bI (sm_callM X true (d + 6) 106 [vP (15, 0), vI 0] s4) sm_tw fun y13 s14 => sm_bI (sm_callM X true (d + 6) 28 [vI y13, vI y1] s14) sm_tw fun y15 s16 => sm_bV (sm_callM X true (d + 6) 85 [vP (15, 0), vI 59, vI y15] s16) sm_tw fun s18 => if (s18.2.2.1 15 0 3).1 = 10 then (sm_bI (sm_callM X true (d + 6) 13 [vP (s18.2.2.1 15 0 3), vI 24, vI 1, vI o1] s18) sm_tw fun y19 s20 => some (some none, s20)) else (none))) := by
  exact bindV (fs_84 F) (fun _ F => ft_readReturn_0_s4 F)
theorem fs_103 (F : FS f pl ci O s) : FV f pl ci O (sm_callM X true (d + 7) 103 [vP (15, 0)] s) := by
  rw [f_X5_readReturn, q_X5_readReturn_0]
  refine ifT (FS.cd F) ?_
  exact bindI (fs_10 F) (fun _ _ F => ft_readReturn_0_s2 F)
theorem ft_readSay_29_s4 {s4 : sm_S} (F : FS f pl ci O s4) : FV f pl ci O (some (some none, s4)) := by
  exact fv_ret F
theorem ft_readSay_29_s6 {s6 : sm_S} (F : FS f pl ci O s6) : FV f pl ci O (some (some none, s6)) := by
  exact fv_ret F
theorem ft_readSay_29_s2 {x2 : Int32} {x1 : Int32} {s2 : sm_S} (F : FS f pl ci O s2) : FV f pl ci O (if x2 = 36 then (if (s2.2.2.1 15 0 3).1 = 10 then (sm_bI (sm_callM X true (d + 6) 13 [vP (s2.2.2.1 15 0 3), vI 22, vI 0, vI x1] s2) sm_tw fun y3 s4 => some (some none, s4)) else (none)) else (if (s2.2.2.1 15 0 3).1 = 10 then (sm_bI (sm_callM X true (d + 6) 13 [vP (s2.2.2.1 15 0 3), vI 23, vI 0, vI x1] s2) sm_tw fun y5 s6 => some (some none, s6)) else (none))) := by
  refine ifB ?_ ?_
  · refine ifT (FS.cd F) ?_
    exact bindI (fs_13 F) (fun _ _ F => ft_readSay_29_s4 F)
  · refine ifT (FS.cd F) ?_
    exact bindI (fs_13 F) (fun _ _ F => ft_readSay_29_s6 F)
theorem fg_readSay_29 {x1 : Int32} {x2 : Int32} {x101 : Int32} {x102 : Int32} (F : FS f pl ci O s) : FV f pl ci O (sm_go (sm_ZZ X) sm_PP true (sm_callM X true (d + 6)) 104 29 [vP (15, 0), vI x1, vI x2] [vI x102, vI x101, vP (15, 0)] s) := by
  rw [q_X5_readSay_29]
  refine ifT rfl ?_
  exact bindV (fs_85 F) (fun _ F => ft_readSay_29_s2 F)
theorem ft_readSay_0_s4 {y3 : Int32} {o1 : Int32} {s4 : sm_S} (F : FS f pl ci O s4) : FV f pl ci O (if y3 = 38 then (sm_go (sm_ZZ X) sm_PP true (sm_callM X true (d + 6)) 104 29 [vP (15, 0), vI o1, vI y3] [vI 0, vI 59, vP (15, 0)] s4) else (sm_go (sm_ZZ X) sm_PP true (sm_callM X true (d + 6)) 104 29 [vP (15, 0), vI o1, vI y3] [vI 1, vI 59, vP (15, 0)] s4)) := by
  refine ifB ?_ ?_
  · exact fg_readSay_29 F
  · exact fg_readSay_29 F
theorem ft_readSay_0_s2 {o1 : Int32} {s2 : sm_S} (F : FS f pl ci O s2) : FV f pl ci O (sm_bI (sm_callM X true (d + 6) 106 [vP (15, 0), vI 0] s2) sm_tw fun y3 s4 => if y3 = 38 then (sm_go (sm_ZZ X) sm_PP true (sm_callM X true (d + 6)) 104 29 [vP (15, 0), vI o1, vI y3] [vI 0, vI 59, vP (15, 0)] s4) else (sm_go (sm_ZZ X) sm_PP true (sm_callM X true (d + 6)) 104 29 [vP (15, 0), vI o1, vI y3] [vI 1, vI 59, vP (15, 0)] s4)) := by
  exact bindI (fs_106 F) (fun _ _ F => ft_readSay_0_s4 F)
theorem fs_104 (F : FS f pl ci O s) : FV f pl ci O (sm_callM X true (d + 7) 104 [vP (15, 0)] s) := by
  rw [f_X5_readSay, q_X5_readSay_0]
  exact bindV (fs_84 F) (fun _ F => ft_readSay_0_s2 F)
theorem ft_readFail_0_s8 {s8 : sm_S} (F : FS f pl ci O s8) : FV f pl ci O (some (some none, s8)) := by
  exact fv_ret F
theorem ft_readFail_0_s6 {o1 : Int32} {s6 : sm_S} (F : FS f pl ci O s6) : FV f pl ci O (if (s6.2.2.1 15 0 3).1 = 10 then (sm_bI (sm_callM X true (d + 6) 13 [vP (s6.2.2.1 15 0 3), vI 25, vI 0, vI o1] s6) sm_tw fun y7 s8 => some (some none, s8)) else (none)) := by
  refine ifT (FS.cd F) ?_
  exact bindI (fs_13 F) (fun _ _ F => ft_readFail_0_s8 F)
theorem ft_readFail_0_s12 {s12 : sm_S} (F : FS f pl ci O s12) : FV f pl ci O (some (some none, s12)) := by
  exact fv_ret F
theorem ft_readFail_0_s10 {o1 : Int32} {s10 : sm_S} (F : FS f pl ci O s10) : FV f pl ci O (if (s10.2.2.1 15 0 3).1 = 10 then (sm_bI (sm_callM X true (d + 6) 13 [vP (s10.2.2.1 15 0 3), vI 25, vI 0, vI o1] s10) sm_tw fun y11 s12 => some (some none, s12)) else (none)) := by
  refine ifT (FS.cd F) ?_
  exact bindI (fs_13 F) (fun _ _ F => ft_readFail_0_s12 F)
theorem ft_readFail_0_s4 {y3 : Int32} {o1 : Int32} {s4 : sm_S} (F : FS f pl ci O s4) : FV f pl ci O (if y3 = 36 then (sm_bV (sm_callM X true (d + 6) 85 [vP (15, 0), vI 59, vI 1] s4) sm_tw fun s6 => if (s6.2.2.1 15 0 3).1 = 10 then (sm_bI (sm_callM X true (d + 6) 13 [vP (s6.2.2.1 15 0 3), vI 25, vI 0, vI o1] s6) sm_tw fun y7 s8 => some (some none, s8)) else (none)) else (sm_bV (sm_callM X true (d + 6) 85 [vP (15, 0), vI 59, vI 0] s4) sm_tw fun s10 => if (s10.2.2.1 15 0 3).1 = 10 then (sm_bI (sm_callM X true (d + 6) 13 [vP (s10.2.2.1 15 0 3), vI 25, vI 0, vI o1] s10) sm_tw fun y11 s12 => some (some none, s12)) else (none))) := by
  refine ifB ?_ ?_
  · exact bindV (fs_85 F) (fun _ F => ft_readFail_0_s6 F)
  · exact bindV (fs_85 F) (fun _ F => ft_readFail_0_s10 F)
theorem ft_readFail_0_s2 {o1 : Int32} {s2 : sm_S} (F : FS f pl ci O s2) : FV f pl ci O (sm_bI (sm_callM X true (d + 6) 106 [vP (15, 0), vI 0] s2) sm_tw fun y3 s4 => if y3 = 36 then (sm_bV (sm_callM X true (d + 6) 85 [vP (15, 0), vI 59, vI 1] s4) sm_tw fun s6 => if (s6.2.2.1 15 0 3).1 = 10 then (sm_bI (sm_callM X true (d + 6) 13 [vP (s6.2.2.1 15 0 3), vI 25, vI 0, vI o1] s6) sm_tw fun y7 s8 => some (some none, s8)) else (none)) else (sm_bV (sm_callM X true (d + 6) 85 [vP (15, 0), vI 59, vI 0] s4) sm_tw fun s10 => if (s10.2.2.1 15 0 3).1 = 10 then (sm_bI (sm_callM X true (d + 6) 13 [vP (s10.2.2.1 15 0 3), vI 25, vI 0, vI o1] s10) sm_tw fun y11 s12 => some (some none, s12)) else (none))) := by
  exact bindI (fs_106 F) (fun _ _ F => ft_readFail_0_s4 F)
theorem fs_105 (F : FS f pl ci O s) : FV f pl ci O (sm_callM X true (d + 7) 105 [vP (15, 0)] s) := by
  rw [f_X5_readFail, q_X5_readFail_0]
  exact bindV (fs_84 F) (fun _ F => ft_readFail_0_s2 F)
theorem ft_readStatement_0_s20 {s20 : sm_S} (F : FS f pl ci O s20) : FV f pl ci O (some (some none, s20)) := by
  exact fv_ret F
theorem fs_96 {x1 : Int32} (F : FS f pl ci O s) : FV f pl ci O (sm_callM X true (d + 8) 96 [vP (15, 0), vI x1] s) := by
  rw [f_X5_readStatement, q_X5_readStatement_0]
  refine ifF (FS.kn F (by decide)) ?_
  refine ifF (FS.kn F (by decide)) ?_
  refine ifF (FS.kn F (by decide)) ?_
  refine ifF (FS.kn F (by decide)) ?_
  refine ifF (FS.kn F (by decide)) ?_
  refine ifF (FS.kn F (by decide)) ?_
  refine ifF (FS.kn F (by decide)) ?_
  refine ifF (FS.kn F (by decide)) ?_
  refine ifF (FS.kn F (by decide)) ?_
  exact bindV (fs_98 F) (fun _ F => ft_readStatement_0_s20 F)
theorem fg_read_38 {d1 : sm_V} {x2 : Int32} (F : FS f pl ci O s) : FV f pl ci O (sm_go (sm_ZZ X) sm_PP true (sm_callM X true (d + 5)) 82 38 [vP (15, 0), d1, vI x2] [] s) := by
  rw [q_X5_read_38]
  refine ifB ?_ ?_
  · exact fv_ret F
  · refine ifF (FS.fn F) ?_
    exact fv_ret F
theorem ft_read_65_s6 {x2 : Int32} {s6 : sm_S} (F : FS f pl ci O s6) : FV f pl ci O (sm_go (sm_ZZ X) sm_PP true (sm_callM X true (d + 5)) 82 38 [vP (15, 0), vU, vI (x2 + 1)] [] s6) := by
  exact fg_read_38 F
theorem ft_read_65_s4 {x2 : Int32} {s4 : sm_S} (F : FS f pl ci O s4) : FV f pl ci O (if (s4.2.2.1 15 0 3).1 = 10 then (sm_bI (sm_callM X true (d + 5) 13 [vP (s4.2.2.1 15 0 3), vI 3, vI 0, vI (-1)] s4) sm_tw fun y5 s6 => sm_go (sm_ZZ X) sm_PP true (sm_callM X true (d + 5)) 82 38 [vP (15, 0), vU, vI (x2 + 1)] [] s6) else (none)) := by
  refine ifT (FS.cd F) ?_
  exact bindI (fs_13 F) (fun _ _ F => ft_read_65_s6 F)
theorem ft_read_65_s2 {x2 : Int32} {s2 : sm_S} (F : FS f pl ci O s2) : FV f pl ci O (sm_bV (sm_callM X true (d + 5) 95 [vP (15, 0), vI 0] s2) sm_tw fun s4 => if (s4.2.2.1 15 0 3).1 = 10 then (sm_bI (sm_callM X true (d + 5) 13 [vP (s4.2.2.1 15 0 3), vI 3, vI 0, vI (-1)] s4) sm_tw fun y5 s6 => sm_go (sm_ZZ X) sm_PP true (sm_callM X true (d + 5)) 82 38 [vP (15, 0), vU, vI (x2 + 1)] [] s6) else (none)) := by
  exact bindV (fs_95 F) (fun _ F => ft_read_65_s4 F)
theorem fg_read_65 {d1 : sm_V} {x2 : Int32} (F : FS f pl ci O s) : FV f pl ci O (sm_go (sm_ZZ X) sm_PP true (sm_callM X true (d + 5)) 82 65 [vP (15, 0), d1, vI x2] [] s) := by
  rw [q_X5_read_65]
  exact bindV (fs_88 F) (fun _ F => ft_read_65_s2 F)
end
