theorem law_ck_2 : ((xlaw.drop 12).take 6).all lawp = true := by decide +kernel
