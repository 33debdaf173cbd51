/-! ===== printed by wip/gen/mk19.py: checked ===== -/
theorem mck_0 : (List.range 25).all (fun j => mck (0 + j) && rok (jR (0 + j)) (jP (0 + j))) = true := by decide +kernel
theorem mchk_0 : (List.range 25).all (fun j => mchk (0 + j) (xtab_0.getD j [])) = true := by decide +kernel
