/-! printed by program (gen/tables5.py): the law, checked -/
theorem ckL_8 : (List.range 120).all (fun i => a_chk 383 (960 + i)) = true := by decide +kernel
theorem ckL_9 : (List.range 120).all (fun i => a_chk 383 (1080 + i)) = true := by decide +kernel
theorem ckL_10 : (List.range 120).all (fun i => a_chk 383 (1200 + i)) = true := by decide +kernel
theorem ckL_11 : (List.range 120).all (fun i => a_chk 383 (1320 + i)) = true := by decide +kernel
