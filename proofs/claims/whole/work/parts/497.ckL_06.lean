/-! printed by program (gen/tables5.py): the law, checked -/
theorem ckL_24 : (List.range 120).all (fun i => a_chk 383 (2880 + i)) = true := by decide +kernel
