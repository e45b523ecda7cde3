theorem cko_L : (aL_chk xt11_19 xo11 52001 && ok_row xt11_19) = true := by decide +kernel
