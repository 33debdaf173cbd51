/-! ===== printed by wip/gen/mk19.py: checked ===== -/
theorem mck_14 : (List.range 21).all (fun j => mck (350 + j) && rok (jR (350 + j)) (jP (350 + j))) = true := by decide +kernel
theorem mchk_14 : (List.range 21).all (fun j => mchk (350 + j) (xtab_14.getD j [])) = true := by decide +kernel
