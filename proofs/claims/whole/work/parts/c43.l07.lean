theorem law_ck_7 : ((xlaw.drop 42).take 6).all lawp = true := by decide +kernel
