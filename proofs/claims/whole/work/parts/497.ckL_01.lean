/-! printed by program (gen/tables5.py): the law, checked -/
theorem ckL_4 : (List.range 120).all (fun i => a_chk 383 (480 + i)) = true := by decide +kernel
theorem ckL_5 : (List.range 120).all (fun i => a_chk 383 (600 + i)) = true := by decide +kernel
theorem ckL_6 : (List.range 120).all (fun i => a_chk 383 (720 + i)) = true := by decide +kernel
theorem ckL_7 : (List.range 120).all (fun i => a_chk 383 (840 + i)) = true := by decide +kernel
