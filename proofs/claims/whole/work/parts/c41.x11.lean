/-! ===== printed by wip/gen/mk19.py: checked ===== -/
theorem mck_11 : (List.range 25).all (fun j => mck (275 + j) && rok (jR (275 + j)) (jP (275 + j))) = true := by decide +kernel
theorem mchk_11 : (List.range 25).all (fun j => mchk (275 + j) (xtab_11.getD j [])) = true := by decide +kernel
