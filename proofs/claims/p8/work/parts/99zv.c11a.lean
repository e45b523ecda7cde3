/-! KnotHouse() by handles -/
def bl8 : List Nat := [24, 25, 26, 27, 28, 29, 30, 31, 32, 33, 34, 35, 36, 37, 38, 39, 40]
def bl0 : List Nat := [41, 42]
def bl1 : List Nat := [43, 44, 45]
def Zc (z8 z0 z1 : ow_MS) : ow_MS := (fun j => if bl8.contains (j / 1000) = true then z8.1 j else if bl0.contains (j / 1000) = true then z0.1 j else if bl1.contains (j / 1000) = true then z1.1 j else 0, fun j => if bl8.contains (j / 1000) = true then z8.2.1 j else if bl0.contains (j / 1000) = true then z0.2.1 j else if bl1.contains (j / 1000) = true then z1.2.1 j else fun _ => 0, fun j => if bl8.contains (j / 1000) = true then z8.2.2 j else if bl0.contains (j / 1000) = true then z0.2.2 j else if bl1.contains (j / 1000) = true then z1.2.2 j else fun _ => 0)
theorem bl_08 : ∀ b, bl0.contains b = true → bl8.contains b = false := by
  intro b hb
  unfold bl0 at hb
  simp only [List.contains_cons, List.contains_nil, Bool.or_false, Bool.or_eq_true, beq_iff_eq] at hb
  rcases hb with rfl | rfl <;> decide
theorem bl_18 : ∀ b, bl1.contains b = true → bl8.contains b = false ∧ bl0.contains b = false := by
  intro b hb
  unfold bl1 at hb
  simp only [List.contains_cons, List.contains_nil, Bool.or_false, Bool.or_eq_true, beq_iff_eq] at hb
  rcases hb with rfl | rfl | rfl <;> decide
theorem Zc_8 (z8 z0 z1 : ow_MS) : ∀ j, bl8.contains (j / 1000) = true → (Zc z8 z0 z1).1 j = z8.1 j ∧ (Zc z8 z0 z1).2.1 j = z8.2.1 j ∧ (Zc z8 z0 z1).2.2 j = z8.2.2 j := fun j hj => ⟨if_pos hj, if_pos hj, if_pos hj⟩
theorem Zc_0 (z8 z0 z1 : ow_MS) : ∀ j, bl0.contains (j / 1000) = true → (Zc z8 z0 z1).1 j = z0.1 j ∧ (Zc z8 z0 z1).2.1 j = z0.2.1 j ∧ (Zc z8 z0 z1).2.2 j = z0.2.2 j := by
  intro j hj
  have h8 : ¬ bl8.contains (j / 1000) = true := by rw [bl_08 _ hj]; decide
  exact ⟨(if_neg h8).trans (if_pos hj), (if_neg h8).trans (if_pos hj), (if_neg h8).trans (if_pos hj)⟩
theorem Zc_1 (z8 z0 z1 : ow_MS) : ∀ j, bl1.contains (j / 1000) = true → (Zc z8 z0 z1).1 j = z1.1 j ∧ (Zc z8 z0 z1).2.1 j = z1.2.1 j ∧ (Zc z8 z0 z1).2.2 j = z1.2.2 j := by
  intro j hj
  have h8 : ¬ bl8.contains (j / 1000) = true := by rw [(bl_18 _ hj).1]; decide
  have h0 : ¬ bl0.contains (j / 1000) = true := by rw [(bl_18 _ hj).2]; decide
  exact ⟨((if_neg h8).trans (if_neg h0)).trans (if_pos hj), ((if_neg h8).trans (if_neg h0)).trans (if_pos hj), ((if_neg h8).trans (if_neg h0)).trans (if_pos hj)⟩
def xl11 : List Nat := [0, 1000, 1001, 1002, 1003, 1004, 2000, 2001, 2002, 2003, 2004, 3000, 3001, 3002, 3003, 3004, 4000, 4001, 4002, 4003, 4004, 4005, 4006, 4007, 5000, 5001, 5002, 5003, 5004, 5005, 5006, 5007, 6000, 6001, 6003, 6004, 6005, 6006, 6007, 6008, 7000, 8000, 8001, 8002, 8003, 8004, 9000, 9001, 9002, 9003, 9004, 10000, 10001, 10002, 10003, 10004, 7004, 7005, 7006, 11000, 11002, 11003, 11004, 12000, 13000, 13001, 13002, 13003, 13004, 14000, 14001, 14002, 14003, 14004, 15000, 15001, 15002, 15003, 15004, 16000, 16001, 16002, 16003, 16004, 16005, 16006, 16007, 17000, 17001, 17002, 17003, 17004, 17005, 17006, 17007, 18000, 18001, 18003, 18004, 18005, 18006, 18007, 18008, 19000, 19001, 19003, 19004, 19005, 19006, 19007, 19008, 20000, 21000, 21001, 21002, 21003, 21004, 22000, 22001, 22002, 22003, 22004, 23000, 23001, 23002, 23003, 23004, 20004, 20005, 20006, 24000, 25000, 25001, 25002, 25003, 25004, 24002, 24003, 24004, 24005, 39001, 39002, 39003, 39004, 39005, 39006, 39007, 39008, 39009, 39010, 39011, 39012, 39013, 39014, 39015, 39016, 39017, 39018, 39019, 39020, 39021, 39022, 39023, 39024, 24006, 24007, 40000, 40001, 40002, 40003, 40004, 40005, 40006, 40007, 26000, 26001, 26002, 26003, 26004, 26005, 26006, 26007, 27000, 27001, 27002, 27003, 27004, 27005, 27006, 27007, 28000, 28001, 28002, 28003, 28004, 28005, 28006, 28007, 29000, 29001, 29002, 29003, 29004, 29005, 29006, 29007, 30000, 30001, 30002, 30003, 30004, 30005, 30006, 30007, 31000, 31001, 31002, 31003, 31004, 31005, 31006, 31007, 32000, 32001, 32002, 32003, 32004, 32005, 32006, 32007, 33000, 33001, 33002, 33003, 33004, 33005, 33006, 33007, 34000, 34001, 34002, 34003, 34004, 34005, 34006, 34007, 35000, 35001, 35002, 35003, 35004, 35005, 35006, 35007, 36000, 36001, 36002, 36003, 36004, 36005, 36006, 36007, 37000, 37001, 37002, 37003, 37004, 37005, 37006, 37007, 38000, 38001, 38002, 38003, 38004, 38005, 38006, 38007, 41000, 41001, 41003, 42001, 42002, 42003, 42004, 42005, 42006, 42007, 42008, 42009, 42010, 42011, 42012, 41004, 41006, 41007, 41008, 41009, 41011, 41012, 41013, 41014, 41015, 43000, 44000, 44001, 44002, 44003, 44004, 44005, 44006, 44007, 43002, 43003, 43004, 43005, 43006, 45001, 45002, 45003, 45004, 45005, 45006, 45007, 45008, 45009, 45010, 45011, 43007, 43008, 43009, 43011, 43012, 43013, 43014, 43015, 43016, 43018, 13, 14, 15, 46000, 46004, 47000, 47004, 48000, 48005, 48006, 49000, 49004, 48008, 48009, 48010, 50000, 50005, 50006, 51000, 51004, 50008, 50009, 50010]
theorem nd11_ : xl11.Nodup := ndB_nd (by decide +kernel)
def xt11_0 : ow_Tb := pT (cX vl0).2 0 (9, 14, pfs (cX_o11 0) 0) (xl11.take 1)
def xt11_1 : ow_Tb := pT (cX vl0).2 0 (9, 14, pfs (cX_o11 0) 1) (xl11.take 6)
def xt11_2 : ow_Tb := pT (cX vl0).2 0 (9, 14, pfs (cX_o11 0) 2) (xl11.take 11)
def xt11_3 : ow_Tb := pT (cX vl0).2 0 (9, 14, pfs (cX_o11 0) 3) (xl11.take 16)
def xt11_4 : ow_Tb := pT (cX vl0).2 0 (9, 14, pfs (cX_o11 0) 4) (xl11.take 24)
def xt11_5 : ow_Tb := pT (cX vl0).2 0 (9, 14, pfs (cX_o11 0) 5) (xl11.take 32)
def xt11_6 : ow_Tb := pT (cX vl0).2 0 (9, 14, pfs (cX_o11 0) 6) (xl11.take 40)
def xt11_7 : ow_Tb := pT (cX vl0).2 0 (9, 14, pfs (cX_o11 0) 7) (xl11.take 59)
def xt11_8 : ow_Tb := pT (cX vl0).2 0 (9, 14, pfs (cX_o11 0) 8) (xl11.take 63)
def xt11_9 : ow_Tb := pT (cX vl0).2 0 (9, 14, pfs (cX_o11 0) 9) (xl11.take 130)
def xt11_10 : ow_Tb := pT (cX vl0).2 0 (9, 14, pfs (cX_o11 0) 10) (xl11.take 278)
def xt11_11 : ow_Tb := pT (cX vl0).2 0 (9, 14, pfs (cX_o11 0) 11) (xl11.take 303)
def xt11_12 : ow_Tb := pT (cX vl0).2 0 (9, 14, pfs (cX_o11 0) 12) (xl11.take 338)
def xt11_13 : ow_Tb := pT (cX vl0).2 0 (9, 14, pfs (cX_o11 0) 13) (xl11.take 339)
def xt11_14 : ow_Tb := pT (cX vl0).2 0 (9, 14, pfs (cX_o11 0) 14) (xl11.take 340)
def xt11_15 : ow_Tb := pT (cX vl0).2 0 (9, 14, pfs (cX_o11 0) 15) (xl11.take 341)
def xt11_16 : ow_Tb := pT (cX vl0).2 0 (9, 14, pfs (cX_o11 0) 16) (xl11.take 343)
def xt11_17 : ow_Tb := pT (cX vl0).2 0 (9, 14, pfs (cX_o11 0) 17) (xl11.take 345)
def xt11_18 : ow_Tb := pT (cX vl0).2 0 (9, 14, pfs (cX_o11 0) 18) (xl11.take 353)
def xt11_19 : ow_Tb := pT (cX vl0).2 0 (9, 14, pfs (cX_o11 0) 19) (xl11.take 361)
theorem fn11_0_1 : fk_N (cX vl0).2 0 (xl11.take 1) := fk_first (by decide +kernel)
theorem fn11_0_6 : fk_N (cX vl0).2 0 (xl11.take 6) := fk_step (n := 1) (Y := [1000, 1001, 1002, 1003, 1004]) fn11_0_1 (by decide +kernel) (by decide +kernel)
theorem fn11_0_11 : fk_N (cX vl0).2 0 (xl11.take 11) := fk_step (n := 6) (Y := [2000, 2001, 2002, 2003, 2004]) fn11_0_6 (by decide +kernel) (by decide +kernel)
theorem fn11_0_16 : fk_N (cX vl0).2 0 (xl11.take 16) := fk_step (n := 11) (Y := [3000, 3001, 3002, 3003, 3004]) fn11_0_11 (by decide +kernel) (by decide +kernel)
theorem fn11_0_24 : fk_N (cX vl0).2 0 (xl11.take 24) := fk_step (n := 16) (Y := [4000, 4001, 4002, 4003, 4004, 4005, 4006, 4007]) fn11_0_16 (by decide +kernel) (by decide +kernel)
theorem fn11_0_32 : fk_N (cX vl0).2 0 (xl11.take 32) := fk_step (n := 24) (Y := [5000, 5001, 5002, 5003, 5004, 5005, 5006, 5007]) fn11_0_24 (by decide +kernel) (by decide +kernel)
theorem fn11_0_40 : fk_N (cX vl0).2 0 (xl11.take 40) := fk_step (n := 32) (Y := [6000, 6001, 6003, 6004, 6005, 6006, 6007, 6008]) fn11_0_32 (by decide +kernel) (by decide +kernel)
theorem fn11_0_59 : fk_N (cX vl0).2 0 (xl11.take 59) := fk_step (n := 40) (Y := [7000, 8000, 8001, 8002, 8003, 8004, 9000, 9001, 9002, 9003, 9004, 10000, 10001, 10002, 10003, 10004, 7004, 7005, 7006]) fn11_0_40 (by decide +kernel) (by decide +kernel)
theorem fn11_0_63 : fk_N (cX vl0).2 0 (xl11.take 63) := fk_step (n := 59) (Y := [11000, 11002, 11003, 11004]) fn11_0_59 (by decide +kernel) (by decide +kernel)
theorem fn11_0_338 : fk_N (cX vl0).2 0 (xl11.take 338) := fk_step (n := 63) (Y := [12000, 13000, 13001, 13002, 13003, 13004, 14000, 14001, 14002, 14003, 14004, 15000, 15001, 15002, 15003, 15004, 16000, 16001, 16002, 16003, 16004, 16005, 16006, 16007, 17000, 17001, 17002, 17003, 17004, 17005, 17006, 17007, 18000, 18001, 18003, 18004, 18005, 18006, 18007, 18008, 19000, 19001, 19003, 19004, 19005, 19006, 19007, 19008, 20000, 21000, 21001, 21002, 21003, 21004, 22000, 22001, 22002, 22003, 22004, 23000, 23001, 23002, 23003, 23004, 20004, 20005, 20006, 24000, 25000, 25001, 25002, 25003, 25004, 24002, 24003, 24004, 24005, 39001, 39002, 39003, 39004, 39005, 39006, 39007, 39008, 39009, 39010, 39011, 39012, 39013, 39014, 39015, 39016, 39017, 39018, 39019, 39020, 39021, 39022, 39023, 39024, 24006, 24007, 40000, 40001, 40002, 40003, 40004, 40005, 40006, 40007, 26000, 26001, 26002, 26003, 26004, 26005, 26006, 26007, 27000, 27001, 27002, 27003, 27004, 27005, 27006, 27007, 28000, 28001, 28002, 28003, 28004, 28005, 28006, 28007, 29000, 29001, 29002, 29003, 29004, 29005, 29006, 29007, 30000, 30001, 30002, 30003, 30004, 30005, 30006, 30007, 31000, 31001, 31002, 31003, 31004, 31005, 31006, 31007, 32000, 32001, 32002, 32003, 32004, 32005, 32006, 32007, 33000, 33001, 33002, 33003, 33004, 33005, 33006, 33007, 34000, 34001, 34002, 34003, 34004, 34005, 34006, 34007, 35000, 35001, 35002, 35003, 35004, 35005, 35006, 35007, 36000, 36001, 36002, 36003, 36004, 36005, 36006, 36007, 37000, 37001, 37002, 37003, 37004, 37005, 37006, 37007, 38000, 38001, 38002, 38003, 38004, 38005, 38006, 38007, 41000, 41001, 41003, 42001, 42002, 42003, 42004, 42005, 42006, 42007, 42008, 42009, 42010, 42011, 42012, 41004, 41006, 41007, 41008, 41009, 41011, 41012, 41013, 41014, 41015, 43000, 44000, 44001, 44002, 44003, 44004, 44005, 44006, 44007, 43002, 43003, 43004, 43005, 43006, 45001, 45002, 45003, 45004, 45005, 45006, 45007, 45008, 45009, 45010, 45011, 43007, 43008, 43009, 43011, 43012, 43013, 43014, 43015, 43016, 43018]) fn11_0_63 (by decide +kernel) (by decide +kernel)
theorem fn11_0_339 : fk_N (cX vl0).2 0 (xl11.take 339) := fk_step (n := 338) (Y := [13]) fn11_0_338 (by decide +kernel) (by decide +kernel)
theorem fn11_0_340 : fk_N (cX vl0).2 0 (xl11.take 340) := fk_step (n := 339) (Y := [14]) fn11_0_339 (by decide +kernel) (by decide +kernel)
theorem fn11_0_341 : fk_N (cX vl0).2 0 (xl11.take 341) := fk_step (n := 340) (Y := [15]) fn11_0_340 (by decide +kernel) (by decide +kernel)
theorem fn11_0_343 : fk_N (cX vl0).2 0 (xl11.take 343) := fk_step (n := 341) (Y := [46000, 46004]) fn11_0_341 (by decide +kernel) (by decide +kernel)
theorem fn11_0_345 : fk_N (cX vl0).2 0 (xl11.take 345) := fk_step (n := 343) (Y := [47000, 47004]) fn11_0_343 (by decide +kernel) (by decide +kernel)
theorem fn11_0_353 : fk_N (cX vl0).2 0 (xl11.take 353) := fk_step (n := 345) (Y := [48000, 48005, 48006, 49000, 49004, 48008, 48009, 48010]) fn11_0_345 (by decide +kernel) (by decide +kernel)
theorem ck11_0 : (ax_chk xt11_0 xt11_1 0 0 1000 [1000, 1001, 1002, 1003, 1004] && ok_row xt11_0) = true := ax_fast4 nd11_ fn11_0_1 (by decide +kernel)
theorem ck11_1 : (ax_chk xt11_1 xt11_2 0 1 2000 [2000, 2001, 2002, 2003, 2004] && ok_row xt11_1) = true := ax_fast4 nd11_ fn11_0_6 (by decide +kernel)
theorem ck11_2 : (ax_chk xt11_2 xt11_3 0 2 3000 [3000, 3001, 3002, 3003, 3004] && ok_row xt11_2) = true := ax_fast4 nd11_ fn11_0_11 (by decide +kernel)
theorem ck11_3 : (ax_chk xt11_3 xt11_4 0 3 4000 [4000, 4001, 4002, 4003, 4004, 4005, 4006, 4007] && ok_row xt11_3) = true := ax_fast4 nd11_ fn11_0_16 (by decide +kernel)
theorem ck11_4 : (ax_chk xt11_4 xt11_5 0 4 5000 [5000, 5001, 5002, 5003, 5004, 5005, 5006, 5007] && ok_row xt11_4) = true := ax_fast4 nd11_ fn11_0_24 (by decide +kernel)
theorem ck11_5 : (ax_chk xt11_5 xt11_6 0 5 6000 [6000, 6001, 6003, 6004, 6005, 6006, 6007, 6008] && ok_row xt11_5) = true := ax_fast4 nd11_ fn11_0_32 (by decide +kernel)
theorem ck11_6 : (ax_chk xt11_6 xt11_7 0 6 7000 [7000, 8000, 8001, 8002, 8003, 8004, 9000, 9001, 9002, 9003, 9004, 10000, 10001, 10002, 10003, 10004, 7004, 7005, 7006] && ok_row xt11_6) = true := ax_fast4 nd11_ fn11_0_40 (by decide +kernel)
theorem ck11_7 : (ax_chk xt11_7 xt11_8 0 7 11000 [11000, 11002, 11003, 11004] && ok_row xt11_7) = true := ax_fast4 nd11_ fn11_0_59 (by decide +kernel)
theorem ck11_8 : (ax_chk xt11_8 xt11_9 0 8 12000 [12000, 13000, 13001, 13002, 13003, 13004, 14000, 14001, 14002, 14003, 14004, 15000, 15001, 15002, 15003, 15004, 16000, 16001, 16002, 16003, 16004, 16005, 16006, 16007, 17000, 17001, 17002, 17003, 17004, 17005, 17006, 17007, 18000, 18001, 18003, 18004, 18005, 18006, 18007, 18008, 19000, 19001, 19003, 19004, 19005, 19006, 19007, 19008, 20000, 21000, 21001, 21002, 21003, 21004, 22000, 22001, 22002, 22003, 22004, 23000, 23001, 23002, 23003, 23004, 20004, 20005, 20006] && ok_row xt11_8) = true := ax_fast4 nd11_ fn11_0_63 (by decide +kernel)
theorem ck11_9 : am_chk xt11_9 xt11_10 cT8 0 9 24000 bl8 = true := am_fast (X1 := xt11_10) (ndB_nd (by decide +kernel)) (by decide +kernel)
theorem ck11_10 : am_chk xt11_10 xt11_11 cT0n 0 10 41000 bl0 = true := am_fast (X1 := xt11_11) (ndB_nd (by decide +kernel)) (by decide +kernel)
theorem ck11_11 : am_chk xt11_11 xt11_12 cT1 0 11 43000 bl1 = true := am_fast (X1 := xt11_12) (ndB_nd (by decide +kernel)) (by decide +kernel)
theorem ck11_12 : (ax_chk xt11_12 xt11_13 0 12 13 [13] && ok_row xt11_12) = true := ax_fast4 nd11_ fn11_0_338 (by decide +kernel)
theorem ck11_13 : (ax_chk xt11_13 xt11_14 0 13 14 [14] && ok_row xt11_13) = true := ax_fast4 nd11_ fn11_0_339 (by decide +kernel)
theorem ck11_14 : (ax_chk xt11_14 xt11_15 0 14 15 [15] && ok_row xt11_14) = true := ax_fast4 nd11_ fn11_0_340 (by decide +kernel)
theorem ck11_15 : (ax_chk xt11_15 xt11_16 0 15 46000 [46000, 46004] && ok_row xt11_15) = true := ax_fast4 nd11_ fn11_0_341 (by decide +kernel)
theorem ck11_16 : (ax_chk xt11_16 xt11_17 0 16 47000 [47000, 47004] && ok_row xt11_16) = true := ax_fast4 nd11_ fn11_0_343 (by decide +kernel)
theorem ck11_17 : (ax_chk xt11_17 xt11_18 0 17 48000 [48000, 48005, 48006, 49000, 49004, 48008, 48009, 48010] && ok_row xt11_17) = true := ax_fast4 nd11_ fn11_0_345 (by decide +kernel)
theorem ck11_18 : (ax_chk xt11_18 xt11_19 0 18 50000 [50000, 50005, 50006, 51000, 51004, 50008, 50009, 50010] && ok_row xt11_18) = true := ax_fast4 nd11_ fn11_0_353 (by decide +kernel)
def RI11 : Room := { frames := 4, cells := 362, slots := 178483, locals := 73 }
def wi11 : List Cond := wsX11_init ++ (wi8 ++ (wi0 ++ wi1))
theorem wi11_L {w : Cond} (h : w ∈ wsX11_init) : w ∈ wi11 := List.mem_append_left _ h
theorem wi11_X0 : ∀ w ∈ u_ws RX0 TX0 16, w ∈ wi11 := fun w h => wi11_L ((show ∀ w ∈ u_ws RX0 TX0 16, w ∈ wsX11_init by decide +kernel) w h)
theorem wi11_X1 : ∀ w ∈ u_ws RX1 TX1 20, w ∈ wi11 := fun w h => wi11_L ((show ∀ w ∈ u_ws RX1 TX1 20, w ∈ wsX11_init by decide +kernel) w h)
theorem wi11_X2 : ∀ w ∈ u_ws RX2 TX2 6, w ∈ wi11 := fun w h => wi11_L ((show ∀ w ∈ u_ws RX2 TX2 6, w ∈ wsX11_init by decide +kernel) w h)
theorem wi11_X3 : ∀ w ∈ u_ws RX3 TX3 5, w ∈ wi11 := fun w h => wi11_L ((show ∀ w ∈ u_ws RX3 TX3 5, w ∈ wsX11_init by decide +kernel) w h)
theorem wi11_X4 : ∀ w ∈ u_ws RX4 TX4 8, w ∈ wi11 := fun w h => wi11_L ((show ∀ w ∈ u_ws RX4 TX4 8, w ∈ wsX11_init by decide +kernel) w h)
theorem wi11_X5 : ∀ w ∈ u_ws RX5 TX5 6, w ∈ wi11 := fun w h => wi11_L ((show ∀ w ∈ u_ws RX5 TX5 6, w ∈ wsX11_init by decide +kernel) w h)
theorem wi11_X6 : ∀ w ∈ u_ws RX6 TX6 8, w ∈ wi11 := fun w h => wi11_L ((show ∀ w ∈ u_ws RX6 TX6 8, w ∈ wsX11_init by decide +kernel) w h)
theorem wi11_X7 : ∀ w ∈ u_ws RX7 TX7 11, w ∈ wi11 := fun w h => wi11_L ((show ∀ w ∈ u_ws RX7 TX7 11, w ∈ wsX11_init by decide +kernel) w h)
theorem wi11_X8 : ∀ w ∈ u_ws RX8 TX8 9, w ∈ wi11 := fun w h => wi11_L ((show ∀ w ∈ u_ws RX8 TX8 9, w ∈ wsX11_init by decide +kernel) w h)
theorem wi11_X9 : ∀ w ∈ u_ws RX9 TX9 6, w ∈ wi11 := fun w h => wi11_L ((show ∀ w ∈ u_ws RX9 TX9 6, w ∈ wsX11_init by decide +kernel) w h)
theorem wi11_X10 : ∀ w ∈ u_ws RX10 TX10 11, w ∈ wi11 := fun w h => wi11_L ((show ∀ w ∈ u_ws RX10 TX10 11, w ∈ wsX11_init by decide +kernel) w h)
theorem wi11_X11 : ∀ w ∈ u_ws RX11 TX11 19, w ∈ wi11 := fun w h => wi11_L ((show ∀ w ∈ u_ws RX11 TX11 19, w ∈ wsX11_init by decide +kernel) w h)
theorem gi11_X3_init : GoodIn wi11 (wsX3_init) := goodIn_mono gX11_init_X3_init (fun _ h => wi11_L h)
theorem gi11_X7_init_n26 : GoodIn wi11 (wsX7_init) := goodIn_mono gX11_init_X7_init_n26 (fun _ h => wi11_L h)
theorem gi11_X4_init_n36 : GoodIn wi11 (wsX4_init) := goodIn_mono gX11_init_X4_init_n36 (fun _ h => wi11_L h)
theorem gi11_X2_init_n43 : GoodIn wi11 (wsX2_init) := goodIn_mono gX11_init_X2_init_n43 (fun _ h => wi11_L h)
theorem gi11_X9_init_n50 : GoodIn wi11 (wsX9_init) := goodIn_mono gX11_init_X9_init_n50 (fun _ h => wi11_L h)
theorem gi11_X6_init_n57 : GoodIn wi11 (wsX6_init) := goodIn_mono gX11_init_X6_init_n57 (fun _ h => wi11_L h)
theorem gi11_X5_init_n96 : GoodIn wi11 (wsX5_init) := goodIn_mono gX11_init_X5_init_n96 (fun _ h => wi11_L h)
theorem gi11_X10_init_n106 : GoodIn wi11 (wsX10_init) := goodIn_mono gX11_init_X10_init_n106 (fun _ h => wi11_L h)
theorem gi11_X8_init : GoodIn wi11 wi8 := goodIn_sub (fun _ h => List.mem_append_right _ (List.mem_append_left _ h)) (by decide +kernel)
theorem gi11_X0_init : GoodIn wi11 wi0 := goodIn_sub (fun _ h => List.mem_append_right _ (List.mem_append_right _ (List.mem_append_left _ h))) (by decide +kernel)
theorem gi11_X1_init : GoodIn wi11 wi1 := goodIn_sub (fun _ h => List.mem_append_right _ (List.mem_append_right _ (List.mem_append_right _ h))) (by decide +kernel)
