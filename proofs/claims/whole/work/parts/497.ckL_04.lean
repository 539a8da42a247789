/-! printed by program (gen/tables5.py): the law, checked -/
theorem ckL_16 : (List.range 120).all (fun i => a_chk 383 (1920 + i)) = true := by decide +kernel
theorem ckL_17 : (List.range 120).all (fun i => a_chk 383 (2040 + i)) = true := by decide +kernel
theorem ckL_18 : (List.range 120).all (fun i => a_chk 383 (2160 + i)) = true := by decide +kernel
theorem ckL_19 : (List.range 120).all (fun i => a_chk 383 (2280 + i)) = true := by decide +kernel
