theorem law_ck_3 : ((xlaw.drop 18).take 6).all lawp = true := by decide +kernel
