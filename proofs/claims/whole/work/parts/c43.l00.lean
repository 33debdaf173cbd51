/-! ===== the law's blocks, checked, some at a time ===== -/
def lawp (q : Nat × List Nat × List Nat × List (List Nat)) : Bool := ckB "MurmurHallLaw" code 4 (xent xlaw) 0 (some .boolean) q.1 q.2.1 q.2.2.1 q.2.2.2 (blk o_law q.1)
theorem law_en : entO (xent xlaw) 16 = some ([], [7, 20, 21, 99]) := by decide +kernel
theorem xlaw_len : xlaw.length = 60 := by decide +kernel
theorem law_ck_0 : ((xlaw.drop 0).take 6).all lawp = true := by decide +kernel
