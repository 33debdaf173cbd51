theorem law_ck_6 : ((xlaw.drop 36).take 6).all lawp = true := by decide +kernel
