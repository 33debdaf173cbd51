theorem law_ck_1 : ((xlaw.drop 6).take 6).all lawp = true := by decide +kernel
