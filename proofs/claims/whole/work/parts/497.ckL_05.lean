/-! printed by program (gen/tables5.py): the law, checked -/
theorem ckL_20 : (List.range 120).all (fun i => a_chk 383 (2400 + i)) = true := by decide +kernel
theorem ckL_21 : (List.range 120).all (fun i => a_chk 383 (2520 + i)) = true := by decide +kernel
theorem ckL_22 : (List.range 120).all (fun i => a_chk 383 (2640 + i)) = true := by decide +kernel
theorem ckL_23 : (List.range 120).all (fun i => a_chk 383 (2760 + i)) = true := by decide +kernel
