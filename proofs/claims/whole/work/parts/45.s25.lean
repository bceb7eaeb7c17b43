section
theorem sm_ck8 : ((List.range 231).drop 220).all (fun n => (sm_cd n).all (sm_okE n)) = true := by decide +kernel
theorem sm_ck9 : ((List.range 242).drop 231).all (fun n => (sm_cd n).all (sm_okE n)) = true := by decide +kernel
theorem sm_ck10 : ((List.range 253).drop 242).all (fun n => (sm_cd n).all (sm_okE n)) = true := by decide +kernel
theorem sm_ck11 : ((List.range 264).drop 253).all (fun n => (sm_cd n).all (sm_okE n)) = true := by decide +kernel
end
