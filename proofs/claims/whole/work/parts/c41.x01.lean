/-! ===== printed by wip/gen/mk19.py: checked ===== -/
theorem mck_1 : (List.range 25).all (fun j => mck (25 + j) && rok (jR (25 + j)) (jP (25 + j))) = true := by decide +kernel
theorem mchk_1 : (List.range 25).all (fun j => mchk (25 + j) (xtab_1.getD j [])) = true := by decide +kernel
