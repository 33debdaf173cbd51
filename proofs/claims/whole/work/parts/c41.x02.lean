/-! ===== printed by wip/gen/mk19.py: checked ===== -/
theorem mck_2 : (List.range 25).all (fun j => mck (50 + j) && rok (jR (50 + j)) (jP (50 + j))) = true := by decide +kernel
theorem mchk_2 : (List.range 25).all (fun j => mchk (50 + j) (xtab_2.getD j [])) = true := by decide +kernel
