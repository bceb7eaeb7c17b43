section
theorem sm_ck12 : ((List.range 275).drop 264).all (fun n => (sm_cd n).all (sm_okE n)) = true := by decide +kernel
theorem sm_ck13 : ((List.range 286).drop 275).all (fun n => (sm_cd n).all (sm_okE n)) = true := by decide +kernel
theorem sm_ck14 : ((List.range 297).drop 286).all (fun n => (sm_cd n).all (sm_okE n)) = true := by decide +kernel
theorem sm_ck15 : ((List.range 308).drop 297).all (fun n => (sm_cd n).all (sm_okE n)) = true := by decide +kernel
end
