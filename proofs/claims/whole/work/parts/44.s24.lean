section
theorem sm_ck4 : ((List.range 187).drop 176).all (fun n => (sm_cd n).all (sm_okE n)) = true := by decide +kernel
theorem sm_ck5 : ((List.range 198).drop 187).all (fun n => (sm_cd n).all (sm_okE n)) = true := by decide +kernel
theorem sm_ck6 : ((List.range 209).drop 198).all (fun n => (sm_cd n).all (sm_okE n)) = true := by decide +kernel
theorem sm_ck7 : ((List.range 220).drop 209).all (fun n => (sm_cd n).all (sm_okE n)) = true := by decide +kernel
end
