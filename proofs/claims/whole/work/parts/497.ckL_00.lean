/-! printed by program (gen/tables5.py): the law, checked -/
theorem ckL_0 : (List.range 120).all (fun i => a_chk 383 (0 + i)) = true := by decide +kernel
theorem ckL_1 : (List.range 120).all (fun i => a_chk 383 (120 + i)) = true := by decide +kernel
theorem ckL_2 : (List.range 120).all (fun i => a_chk 383 (240 + i)) = true := by decide +kernel
theorem ckL_3 : (List.range 120).all (fun i => a_chk 383 (360 + i)) = true := by decide +kernel
