/-! printed by program (gen/tables5.py): the law, checked -/
theorem ckL_12 : (List.range 120).all (fun i => a_chk 383 (1440 + i)) = true := by decide +kernel
theorem ckL_13 : (List.range 120).all (fun i => a_chk 383 (1560 + i)) = true := by decide +kernel
theorem ckL_14 : (List.range 120).all (fun i => a_chk 383 (1680 + i)) = true := by decide +kernel
theorem ckL_15 : (List.range 120).all (fun i => a_chk 383 (1800 + i)) = true := by decide +kernel
