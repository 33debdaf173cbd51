theorem law_ck_8 : ((xlaw.drop 48).take 6).all lawp = true := by decide +kernel
