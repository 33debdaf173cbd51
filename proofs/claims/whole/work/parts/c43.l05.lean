theorem law_ck_5 : ((xlaw.drop 30).take 6).all lawp = true := by decide +kernel
