/-! ===== printed by wip/gen/mk19.py: checked ===== -/
theorem mck_13 : (List.range 25).all (fun j => mck (325 + j) && rok (jR (325 + j)) (jP (325 + j))) = true := by decide +kernel
theorem mchk_13 : (List.range 25).all (fun j => mchk (325 + j) (xtab_13.getD j [])) = true := by decide +kernel
