/-! ===== printed by wip/gen/mk19.py: checked ===== -/
theorem mck_8 : (List.range 25).all (fun j => mck (200 + j) && rok (jR (200 + j)) (jP (200 + j))) = true := by decide +kernel
theorem mchk_8 : (List.range 25).all (fun j => mchk (200 + j) (xtab_8.getD j [])) = true := by decide +kernel
