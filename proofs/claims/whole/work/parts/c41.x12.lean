/-! ===== printed by wip/gen/mk19.py: checked ===== -/
theorem mck_12 : (List.range 25).all (fun j => mck (300 + j) && rok (jR (300 + j)) (jP (300 + j))) = true := by decide +kernel
theorem mchk_12 : (List.range 25).all (fun j => mchk (300 + j) (xtab_12.getD j [])) = true := by decide +kernel
