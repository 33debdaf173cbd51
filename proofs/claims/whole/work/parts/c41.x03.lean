/-! ===== printed by wip/gen/mk19.py: checked ===== -/
theorem mck_3 : (List.range 25).all (fun j => mck (75 + j) && rok (jR (75 + j)) (jP (75 + j))) = true := by decide +kernel
theorem mchk_3 : (List.range 25).all (fun j => mchk (75 + j) (xtab_3.getD j [])) = true := by decide +kernel
