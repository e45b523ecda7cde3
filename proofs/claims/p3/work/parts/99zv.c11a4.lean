theorem ck11_9 : am_chk xt11_9 xt11_10 cT8 0 9 24000 bl8 = true := by decide +kernel
theorem ck11_10 : am_chk xt11_10 xt11_11 cT0n 0 10 41000 bl0 = true := by decide +kernel
theorem ck11_11 : am_chk xt11_11 xt11_12 cT1 0 11 43000 bl1 = true := by decide +kernel
