/-! ===== printed by wip/gen/mk19.py: checked ===== -/
theorem mck_9 : (List.range 25).all (fun j => mck (225 + j) && rok (jR (225 + j)) (jP (225 + j))) = true := by decide +kernel
theorem mchk_9 : (List.range 25).all (fun j => mchk (225 + j) (xtab_9.getD j [])) = true := by decide +kernel
