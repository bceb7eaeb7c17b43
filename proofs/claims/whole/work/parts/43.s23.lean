section
theorem sm_ck0 : ((List.range 44).drop 0).all (fun n => (sm_cd n).all (sm_okE n)) = true := by decide +kernel
theorem sm_ck1 : ((List.range 88).drop 44).all (fun n => (sm_cd n).all (sm_okE n)) = true := by decide +kernel
theorem sm_ck2 : ((List.range 132).drop 88).all (fun n => (sm_cd n).all (sm_okE n)) = true := by decide +kernel
theorem sm_ck3 : ((List.range 176).drop 132).all (fun n => (sm_cd n).all (sm_okE n)) = true := by decide +kernel
theorem sm_ckl : (sm_cd sm_LAW).all (sm_okE sm_LAW) = true := by decide +kernel
end
