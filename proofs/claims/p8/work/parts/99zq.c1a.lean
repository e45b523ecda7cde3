/-! Chains() by handles -/
def xF1 (h : Nat) : Nat × Nat × List (Nat × Nat) := if h = 53001 then (0, 11, []) else (cX vl0).2 h
def xl1 : List Nat := [43000, 44000, 44001, 44002, 44003, 44004, 44005, 44006, 44007, 43002, 43003, 43004, 43005, 43006, 45001, 45002, 45003, 45004, 45005, 45006, 45007, 45008, 45009, 45010, 45011, 43007, 43008, 43009, 43011, 43012, 43013, 43014, 43015, 43016, 43018, 53001]
def xt1_0 : ow_Tb := pT (cX vl0).2 43000 (9, 4, pfs (cX_o1 43000) 0) (xl1.take 1)
def xt1_1 : ow_Tb := pT (cX vl0).2 43000 (9, 4, pfs (cX_o1 43000) 1) (xl1.take 9)
def xt1_2 : ow_Tb := pT (cX vl0).2 43000 (9, 4, pfs (cX_o1 43000) 2) (xl1.take 10)
def xt1_3 : ow_Tb := pT (cX vl0).2 43000 (9, 4, pfs (cX_o1 43000) 3) (xl1.take 11)
def xt1_4 : ow_Tb := pT (cX vl0).2 43000 (9, 4, pfs (cX_o1 43000) 4) (xl1.take 12)
def xt1_5 : ow_Tb := pT (cX vl0).2 43000 (9, 4, pfs (cX_o1 43000) 5) (xl1.take 13)
def xt1_6 : ow_Tb := pT (cX vl0).2 43000 (9, 4, pfs (cX_o1 43000) 6) (xl1.take 25)
def xt1_7 : ow_Tb := pT (cX vl0).2 43000 (9, 4, pfs (cX_o1 43000) 7) (xl1.take 26)
def xt1_8 : ow_Tb := pT (cX vl0).2 43000 (9, 4, pfs (cX_o1 43000) 8) (xl1.take 27)
def xt1_9 : ow_Tb := pT (cX vl0).2 43000 (9, 4, pfs (cX_o1 43000) 9) (xl1.take 28)
def xt1_10 : ow_Tb := pT (cX vl0).2 43000 (9, 4, pfs (cX_o1 43000) 11) (xl1.take 29)
def xt1_11 : ow_Tb := pT (cX vl0).2 43000 (9, 4, pfs (cX_o1 43000) 12) (xl1.take 30)
def xt1_12 : ow_Tb := pT (cX vl0).2 43000 (9, 4, pfs (cX_o1 43000) 13) (xl1.take 31)
def xt1_13 : ow_Tb := pT (cX vl0).2 43000 (9, 4, pfs (cX_o1 43000) 14) (xl1.take 32)
def xt1_14 : ow_Tb := pT (cX vl0).2 43000 (9, 4, pfs (cX_o1 43000) 15) (xl1.take 33)
def xt1_15 : ow_Tb := pT (cX vl0).2 43000 (9, 4, pfs (cX_o1 43000) 16) (xl1.take 34)
def xt1_16 : ow_Tb := pT (cX vl0).2 43000 (9, 4, pfs (cX_o1 43000) 18) (xl1.take 35)
theorem ck1_0 : (ax_chk xt1_0 xt1_1 43000 0 44000 [44000, 44001, 44002, 44003, 44004, 44005, 44006, 44007] && ok_row xt1_0) = true := by decide +kernel
theorem ck1_1 : (ax_chk xt1_1 xt1_2 43000 1 43002 [43002] && ok_row xt1_1) = true := by decide +kernel
theorem ck1_2 : (ax_chk xt1_2 xt1_3 43000 2 43003 [43003] && ok_row xt1_2) = true := by decide +kernel
theorem ck1_3 : (ax_chk xt1_3 xt1_4 43000 3 43004 [43004] && ok_row xt1_3) = true := by decide +kernel
theorem ck1_4 : (ax_chk xt1_4 xt1_5 43000 4 43005 [43005] && ok_row xt1_4) = true := by decide +kernel
theorem ck1_5 : (ax_chk xt1_5 xt1_6 43000 5 43006 [43006, 45001, 45002, 45003, 45004, 45005, 45006, 45007, 45008, 45009, 45010, 45011] && ok_row xt1_5) = true := by decide +kernel
theorem ck1_6 : (ax_chk xt1_6 xt1_7 43000 6 43007 [43007] && ok_row xt1_6) = true := by decide +kernel
theorem ck1_7 : (ax_chk xt1_7 xt1_8 43000 7 43008 [43008] && ok_row xt1_7) = true := by decide +kernel
theorem ck1_8 : (ax_chk xt1_8 xt1_9 43000 8 43009 [43009] && ok_row xt1_8) = true := by decide +kernel
theorem ck1_9 : (ax_chk xt1_9 xt1_10 43000 10 43011 [43011] && ok_row xt1_9) = true := by decide +kernel
theorem ck1_10 : (ax_chk xt1_10 xt1_11 43000 11 43012 [43012] && ok_row xt1_10) = true := by decide +kernel
theorem ck1_11 : (ax_chk xt1_11 xt1_12 43000 12 43013 [43013] && ok_row xt1_11) = true := by decide +kernel
theorem ck1_12 : (ax_chk xt1_12 xt1_13 43000 13 43014 [43014] && ok_row xt1_12) = true := by decide +kernel
theorem ck1_13 : (ax_chk xt1_13 xt1_14 43000 14 43015 [43015] && ok_row xt1_13) = true := by decide +kernel
theorem ck1_14 : (ax_chk xt1_14 xt1_15 43000 15 43016 [43016] && ok_row xt1_14) = true := by decide +kernel
theorem ck1_15 : (ax_chk xt1_15 xt1_16 43000 17 43018 [43018] && ok_row xt1_15) = true := by decide +kernel
def cT1 : ow_Tb := (xl1.take 35, (cX vl0).2)
def cT1b : ow_Tb := (xl1, xF1)
theorem cT1_ok : uw_ok cT1 := uw_ok_of (ndB_nd (by decide +kernel)) (by decide +kernel)
theorem cT1b_ok : uw_ok cT1b := uw_ok_of (ndB_nd (by decide +kernel)) (by decide +kernel)
theorem ck1_L : (aL_chk cT1 cT1b 53001 && ok_row cT1) = true := aL_fast (X1 := cT1b) (ndB_nd (by decide +kernel)) (by decide +kernel)
def RI1 : Room := { frames := 2, cells := 35, slots := 51832, locals := 32 }
