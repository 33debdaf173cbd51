/-! ===== printed by wip/gen/mk19.py: checked ===== -/
theorem mck_6 : (List.range 25).all (fun j => mck (150 + j) && rok (jR (150 + j)) (jP (150 + j))) = true := by decide +kernel
theorem mchk_6 : (List.range 25).all (fun j => mchk (150 + j) (xtab_6.getD j [])) = true := by decide +kernel
