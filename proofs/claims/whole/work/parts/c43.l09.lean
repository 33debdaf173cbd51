theorem law_ck_9 : ((xlaw.drop 54).take 6).all lawp = true := by decide +kernel
