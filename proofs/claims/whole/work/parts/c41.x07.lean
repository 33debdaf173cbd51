/-! ===== printed by wip/gen/mk19.py: checked ===== -/
theorem mck_7 : (List.range 25).all (fun j => mck (175 + j) && rok (jR (175 + j)) (jP (175 + j))) = true := by decide +kernel
theorem mchk_7 : (List.range 25).all (fun j => mchk (175 + j) (xtab_7.getD j [])) = true := by decide +kernel
