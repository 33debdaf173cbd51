/-! ===== printed by wip/gen/mk19.py: checked ===== -/
theorem mck_10 : (List.range 25).all (fun j => mck (250 + j) && rok (jR (250 + j)) (jP (250 + j))) = true := by decide +kernel
theorem mchk_10 : (List.range 25).all (fun j => mchk (250 + j) (xtab_10.getD j [])) = true := by decide +kernel
