theorem cko_c : nk_in xo11 (cX vl0) 7 = true := by decide +kernel
