/-! ===== printed by wip/gen/mk19.py: checked ===== -/
theorem mck_5 : (List.range 25).all (fun j => mck (125 + j) && rok (jR (125 + j)) (jP (125 + j))) = true := by decide +kernel
theorem mchk_5 : (List.range 25).all (fun j => mchk (125 + j) (xtab_5.getD j [])) = true := by decide +kernel
