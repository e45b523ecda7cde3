theorem cko_p : dPhi vl0 ≤ 2800000 := by decide +kernel
