/-! ===== printed by wip/gen/mk19.py: checked ===== -/
theorem mck_4 : (List.range 25).all (fun j => mck (100 + j) && rok (jR (100 + j)) (jP (100 + j))) = true := by decide +kernel
theorem mchk_4 : (List.range 25).all (fun j => mchk (100 + j) (xtab_4.getD j [])) = true := by decide +kernel
