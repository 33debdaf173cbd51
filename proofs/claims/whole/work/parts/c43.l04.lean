theorem law_ck_4 : ((xlaw.drop 24).take 6).all lawp = true := by decide +kernel
