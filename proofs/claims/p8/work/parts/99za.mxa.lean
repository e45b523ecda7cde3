/-! the reference by handles: 0 the model, 1 + k its field k; 1000 o the net o (1 cur, 2 other, 3 made, 4 + i level i), 1000 o + 1 + k its field k -/
def mX_o13_a : List (Nat × Nat) := [(0, 1), (1, 2), (0, 3), (1, 4), (1, 5), (1, 6), (1, 7), (1, 8), (1, 9), (1, 10), (0, 11), (1, 12), (1, 1000), (1, 2000), (1, 3000), (1, 16), (1, 17), (1, 18), (1, 19), (1, 20), (1, 21), (0, 22), (1, 23), (0, 24), (1, 25), (0, 26), (1, 27), (1, 28), (0, 29), (0, 30), (1, 31), (1, 32), (1, 33), (1, 34), (1, 35), (0, 36), (1, 37), (1, 38), (1, 39), (1, 40), (1, 41), (1, 42), (1, 43), (1, 44), (1, 45), (0, 46), (1, 47), (1, 48), (1, 49), (1, 50), (1, 51), (1, 52), (1, 53), (1, 54), (1, 55), (1, 56), (1, 57), (0, 58), (1, 59), (1, 60), (1, 61), (1, 62), (1, 63), (1, 64), (1, 65), (1, 66), (0, 67), (1, 68), (1, 69), (0, 70), (0, 71), (1, 72), (1, 73), (1, 74), (1, 75), (1, 76), (1, 77), (1, 78), (0, 79), (1, 80), (1, 81), (1, 82), (1, 83), (1, 84), (1, 85), (1, 86), (1, 87), (0, 88), (1, 89), (1, 90), (1, 91), (1, 92), (0, 93), (1, 94), (1, 95), (1, 96), (1, 97), (1, 98), (1, 99), (1, 100), (1, 101), (1, 102), (1, 103), (1, 104), (1, 105), (1, 106), (1, 107), (1, 108), (0, 109), (1, 110), (0, 111), (0, 112), (0, 113), (1, 114), (1, 115), (0, 116), (1, 117), (1, 118), (1, 119), (1, 120)]
def mX_o12_a (n : Nat) : List (Nat × Nat) := [(0, n + 1), (0, n + 2), (1, n + 3), (1, n + 4), (1, n + 5), (1, n + 6), (1, n + 7), (1, n + 8), (1, n + 9), (1, n + 10), (1, n + 11), (1, n + 12), (0, n + 13), (1, n + 14), (1, n + 15), (0, n + 16)]
def mX_r13_a : List (Nat × Nat × List (Nat × Nat)) := [(8, 0, []), (0, 32, []), (8, 0, []), (0, 40, []), (0, 40, []), (3, 40, []), (0, 640, []), (0, 20, []), (3, 20, []), (1, 400, []), (8, 0, []), (0, 1280, []), (8, 0, []), (8, 0, []), (8, 0, []), (0, 16, []), (0, 16, []), (0, 16, []), (0, 16, []), (0, 86400, []), (0, 2700, []), (8, 0, []), (0, 32000, []), (8, 0, []), (0, 9920, []), (8, 0, []), (0, 32, []), (0, 32, []), (8, 0, []), (8, 0, []), (0, 4, []), (0, 4, []), (0, 3, []), (0, 3, []), (0, 512, []), (8, 0, []), (0, 512, []), (3, 48, []), (0, 16, []), (4, 15, []), (3, 40, []), (2, 40, []), (0, 32, []), (2, 5289, []), (0, 32, []), (8, 0, []), (0, 48, []), (2, 201, []), (2, 201, []), (0, 32, []), (2, 312, []), (0, 80, []), (0, 80, []), (2, 256, []), (2, 256, []), (2, 256, []), (2, 20, []), (8, 0, []), (0, 40, []), (0, 40, []), (0, 16, []), (0, 16, []), (0, 16, []), (2, 312, []), (0, 32, []), (2, 40, []), (8, 0, []), (0, 13, []), (0, 24, []), (8, 0, []), (8, 0, []), (2, 169, []), (0, 5, []), (0, 480, []), (0, 2880, []), (0, 2880, []), (0, 40, []), (0, 40, []), (8, 0, []), (3, 16, []), (1, 8192, []), (0, 256, []), (0, 257, []), (0, 13200, []), (0, 800, []), (0, 800, []), (0, 800, []), (8, 0, []), (0, 13200, []), (0, 13200, []), (0, 13200, []), (0, 900000, []), (8, 0, []), (0, 320, []), (0, 20, []), (0, 20, []), (0, 6, []), (0, 3600, []), (0, 7200, []), (0, 720, []), (0, 2880, []), (0, 720, []), (0, 720, []), (0, 2880, []), (0, 2880, []), (0, 5, []), (0, 400, []), (0, 600, []), (8, 0, []), (0, 600, []), (8, 0, []), (8, 0, []), (8, 0, []), (0, 600, []), (0, 8040, []), (8, 0, []), (0, 40, []), (0, 40, []), (0, 5, []), (3, 5, [])]
def mX_r12_a : List (Nat × Nat × List (Nat × Nat)) := [(8, 0, []), (8, 0, []), (0, 40, []), (0, 40, []), (0, 40, []), (0, 40, []), (0, 40, []), (0, 40, []), (0, 40, []), (0, 40, []), (0, 40, []), (0, 40, []), (8, 0, []), (0, 80, []), (0, 80, []), (8, 0, [])]
def mX_f_a (h : Nat) : Nat × Nat × List (Nat × Nat) := if h = 0 then (9, 16, mX_o13_a) else if h < 1000 then (mX_r13_a[h - 1]?).getD (8, 0, []) else if h % 1000 = 0 then (9, 15, mX_o12_a h) else (mX_r12_a[h % 1000 - 1]?).getD (8, 0, [])
def mX_l_a : List Nat := 0 :: ([2, 4, 5, 6, 7, 8, 9, 10, 12, 16, 17, 18, 19, 20, 21, 23, 25, 27, 28, 31, 32, 33, 34, 35, 37, 38, 39, 40, 41, 42, 43, 44, 45, 47, 48, 49, 50, 51, 52, 53, 54, 55, 56, 57, 59, 60, 61, 62, 63, 64, 65, 66, 68, 69, 72, 73, 74, 75, 76, 77, 78, 80, 81, 82, 83, 84, 85, 86, 87, 89, 90, 91, 92, 94, 95, 96, 97, 98, 99, 100, 101, 102, 103, 104, 105, 106, 107, 108, 110, 114, 115, 117, 118, 119, 120] ++ (List.range 3).flatMap (fun o => (1000 * (o + 1)) :: ([3, 4, 5, 6, 7, 8, 9, 10, 11, 12, 14, 15] : List Nat).map (fun k => 1000 * (o + 1) + k)))
def mX_a : ow_Tb := (mX_l_a, mX_f_a)
theorem mX_ok_a : tw_ok mX_a := tw_ok_of (ndB_nd (by decide +kernel)) (by decide +kernel)
theorem mr_74_a : tw_in mX_a 74 0 := ⟨by decide +kernel, by decide +kernel⟩
theorem mr_75_a : tw_in mX_a 75 0 := ⟨by decide +kernel, by decide +kernel⟩
theorem mr_76_a : tw_in mX_a 76 0 := ⟨by decide +kernel, by decide +kernel⟩
theorem mr_97_a : tw_in mX_a 97 0 := ⟨by decide +kernel, by decide +kernel⟩
theorem mr_98_a : tw_in mX_a 98 0 := ⟨by decide +kernel, by decide +kernel⟩
theorem mr_99_a : tw_in mX_a 99 0 := ⟨by decide +kernel, by decide +kernel⟩
theorem mr_100_a : tw_in mX_a 100 0 := ⟨by decide +kernel, by decide +kernel⟩
theorem mr_101_a : tw_in mX_a 101 0 := ⟨by decide +kernel, by decide +kernel⟩
theorem mr_102_a : tw_in mX_a 102 0 := ⟨by decide +kernel, by decide +kernel⟩
theorem mr_103_a : tw_in mX_a 103 0 := ⟨by decide +kernel, by decide +kernel⟩
theorem mr_104_a : tw_in mX_a 104 0 := ⟨by decide +kernel, by decide +kernel⟩
theorem mr_105_a : tw_in mX_a 105 0 := ⟨by decide +kernel, by decide +kernel⟩
theorem mr_106_a : tw_in mX_a 106 0 := ⟨by decide +kernel, by decide +kernel⟩
theorem mr_107_a : tw_in mX_a 107 0 := ⟨by decide +kernel, by decide +kernel⟩
theorem mo_0_a : tw_ob mX_a 0 16 mX_o13_a := ⟨by decide +kernel, rfl⟩
def wA_0_a : List Cond := [.fieldLink RX13 329 "KnotHouseModel" "simples" "[I", .fieldLink RX13 332 "KnotHouseModel" "ends" "[I", .code yX13_find cX13_find 6 (some .int), .fieldLink RX13 268 "KnotHouseModel" "images" "[I", .code yX13_image cX13_image 4 (some .int), .fieldLink RX13 338 "KnotHouseModel" "sizes" "[I", .fieldLink RX13 359 "KnotHouseModel" "signed" "[I", .fieldLink RX13 335 "KnotHouseModel" "letters" "[I", .methodLink RX13 734 Lib.Math.abs.name, .static Lib.Math.abs.name, .initialized "java/lang/Math", .code Lib.Math.abs.name Lib.Math.abs.code 1 (some .int), .fieldLink RX13 341 "KnotHouseModel" "more" "[I", .fieldLink RX13 350 "KnotHouseModel" "passes" "[I", .fieldLink RX13 353 "KnotHouseModel" "leaves" "[I", .code yX13_turnRound cX13_turnRound 11 none, .fieldLink RX13 356 "KnotHouseModel" "endRow" "[I", .fieldLink RX13 344 "KnotHouseModel" "ahead" "[I", .fieldLink RX13 347 "KnotHouseModel" "over2" "[I", .methodLink RX13 724 yX13_find, .instanceMethod yX13_find, .selects RX13 yX13_find yX13_find, .initialized RX13, .code yX13_makeTurned cX13_makeTurned 6 none, .methodLink RX13 728 yX13_makeTurned, .instanceMethod yX13_makeTurned, .selects RX13 yX13_makeTurned yX13_makeTurned, .methodLink RX13 731 yX13_turnRound, .instanceMethod yX13_turnRound, .selects RX13 yX13_turnRound yX13_turnRound, .code yX13_makeSimples cX13_makeSimples 10 none, .fieldLink RX13 271 "KnotHouseModel" "down" "[I", .fieldLink RX13 274 "KnotHouseModel" "back" "[I", .methodLink RX13 671 yX13_image, .instanceMethod yX13_image, .selects RX13 yX13_image yX13_image, .code yX13_makePermutations cX13_makePermutations 9 none]
def wM_a : List Cond := wA_0_a ++ (wsX130 ++ wsX120)
theorem wM_good_a : wM.all goodWord = true := by decide +kernel
theorem wq_0_a : (Cond.fieldLink RX13 329 "KnotHouseModel" "simples" "[I") ∈ wM_a := List.mem_append_left _ (List.mem_of_getElem? (i := 0) rfl)
theorem wq_1_a : (Cond.fieldLink RX13 332 "KnotHouseModel" "ends" "[I") ∈ wM_a := List.mem_append_left _ (List.mem_of_getElem? (i := 1) rfl)
theorem wq_2_a : (Cond.code yX13_find cX13_find 6 (some .int)) ∈ wM_a := List.mem_append_left _ (List.mem_of_getElem? (i := 2) rfl)
theorem wq_3_a : (Cond.fieldLink RX13 268 "KnotHouseModel" "images" "[I") ∈ wM_a := List.mem_append_left _ (List.mem_of_getElem? (i := 3) rfl)
theorem wq_4_a : (Cond.code yX13_image cX13_image 4 (some .int)) ∈ wM_a := List.mem_append_left _ (List.mem_of_getElem? (i := 4) rfl)
theorem wq_5_a : (Cond.fieldLink RX13 338 "KnotHouseModel" "sizes" "[I") ∈ wM_a := List.mem_append_left _ (List.mem_of_getElem? (i := 5) rfl)
theorem wq_6_a : (Cond.fieldLink RX13 359 "KnotHouseModel" "signed" "[I") ∈ wM_a := List.mem_append_left _ (List.mem_of_getElem? (i := 6) rfl)
theorem wq_7_a : (Cond.fieldLink RX13 335 "KnotHouseModel" "letters" "[I") ∈ wM_a := List.mem_append_left _ (List.mem_of_getElem? (i := 7) rfl)
theorem wq_8_a : (Cond.methodLink RX13 734 Lib.Math.abs.name) ∈ wM_a := List.mem_append_left _ (List.mem_of_getElem? (i := 8) rfl)
theorem wq_9_a : (Cond.static Lib.Math.abs.name) ∈ wM_a := List.mem_append_left _ (List.mem_of_getElem? (i := 9) rfl)
theorem wq_10_a : (Cond.initialized "java/lang/Math") ∈ wM_a := List.mem_append_left _ (List.mem_of_getElem? (i := 10) rfl)
theorem wq_11_a : (Cond.code Lib.Math.abs.name Lib.Math.abs.code 1 (some .int)) ∈ wM_a := List.mem_append_left _ (List.mem_of_getElem? (i := 11) rfl)
theorem wq_12_a : (Cond.fieldLink RX13 341 "KnotHouseModel" "more" "[I") ∈ wM_a := List.mem_append_left _ (List.mem_of_getElem? (i := 12) rfl)
theorem wq_13_a : (Cond.fieldLink RX13 350 "KnotHouseModel" "passes" "[I") ∈ wM_a := List.mem_append_left _ (List.mem_of_getElem? (i := 13) rfl)
theorem wq_14_a : (Cond.fieldLink RX13 353 "KnotHouseModel" "leaves" "[I") ∈ wM_a := List.mem_append_left _ (List.mem_of_getElem? (i := 14) rfl)
theorem wq_15_a : (Cond.code yX13_turnRound cX13_turnRound 11 none) ∈ wM_a := List.mem_append_left _ (List.mem_of_getElem? (i := 15) rfl)
theorem wq_16_a : (Cond.fieldLink RX13 356 "KnotHouseModel" "endRow" "[I") ∈ wM_a := List.mem_append_left _ (List.mem_of_getElem? (i := 16) rfl)
theorem wq_17_a : (Cond.fieldLink RX13 344 "KnotHouseModel" "ahead" "[I") ∈ wM_a := List.mem_append_left _ (List.mem_of_getElem? (i := 17) rfl)
theorem wq_18_a : (Cond.fieldLink RX13 347 "KnotHouseModel" "over2" "[I") ∈ wM_a := List.mem_append_left _ (List.mem_of_getElem? (i := 18) rfl)
theorem wq_19_a : (Cond.methodLink RX13 724 yX13_find) ∈ wM_a := List.mem_append_left _ (List.mem_of_getElem? (i := 19) rfl)
theorem wq_20_a : (Cond.instanceMethod yX13_find) ∈ wM_a := List.mem_append_left _ (List.mem_of_getElem? (i := 20) rfl)
theorem wq_21_a : (Cond.selects RX13 yX13_find yX13_find) ∈ wM_a := List.mem_append_left _ (List.mem_of_getElem? (i := 21) rfl)
theorem wq_22_a : (Cond.initialized RX13) ∈ wM_a := List.mem_append_left _ (List.mem_of_getElem? (i := 22) rfl)
theorem wq_23_a : (Cond.code yX13_makeTurned cX13_makeTurned 6 none) ∈ wM_a := List.mem_append_left _ (List.mem_of_getElem? (i := 23) rfl)
theorem wq_24_a : (Cond.methodLink RX13 728 yX13_makeTurned) ∈ wM_a := List.mem_append_left _ (List.mem_of_getElem? (i := 24) rfl)
theorem wq_25_a : (Cond.instanceMethod yX13_makeTurned) ∈ wM_a := List.mem_append_left _ (List.mem_of_getElem? (i := 25) rfl)
theorem wq_26_a : (Cond.selects RX13 yX13_makeTurned yX13_makeTurned) ∈ wM_a := List.mem_append_left _ (List.mem_of_getElem? (i := 26) rfl)
theorem wq_27_a : (Cond.methodLink RX13 731 yX13_turnRound) ∈ wM_a := List.mem_append_left _ (List.mem_of_getElem? (i := 27) rfl)
theorem wq_28_a : (Cond.instanceMethod yX13_turnRound) ∈ wM_a := List.mem_append_left _ (List.mem_of_getElem? (i := 28) rfl)
theorem wq_29_a : (Cond.selects RX13 yX13_turnRound yX13_turnRound) ∈ wM_a := List.mem_append_left _ (List.mem_of_getElem? (i := 29) rfl)
theorem wq_31_a : (Cond.fieldLink RX13 271 "KnotHouseModel" "down" "[I") ∈ wM_a := List.mem_append_left _ (List.mem_of_getElem? (i := 31) rfl)
theorem wq_32_a : (Cond.fieldLink RX13 274 "KnotHouseModel" "back" "[I") ∈ wM_a := List.mem_append_left _ (List.mem_of_getElem? (i := 32) rfl)
theorem wq_33_a : (Cond.methodLink RX13 671 yX13_image) ∈ wM_a := List.mem_append_left _ (List.mem_of_getElem? (i := 33) rfl)
theorem wq_34_a : (Cond.instanceMethod yX13_image) ∈ wM_a := List.mem_append_left _ (List.mem_of_getElem? (i := 34) rfl)
theorem wq_35_a : (Cond.selects RX13 yX13_image yX13_image) ∈ wM_a := List.mem_append_left _ (List.mem_of_getElem? (i := 35) rfl)
theorem wM_13_a : ∀ w ∈ u_ws RX13 TX13 120, w ∈ wM_a := fun _ h => List.mem_append_right _ (List.mem_append_left _ h)
def mw_pre_a (D : va_G) (q : ow_Q5) (u : Nat → Nat) (z : ow_MS) (U : State) : Prop := va_P D vwCl (tw mX_a q u z) U.heap ∧ va_K D vwCl (tw_T q RX12) U ∧ ow_NM U
section MRULES
variable {p : Program} {l : Launch} {e : Env} {R : Room} {s : State} {m : MethodId} {args : Array Value} {below : List Frame} {meth : Method} {c : Code} {H : Heap} {locs : List Loc} {cells slots : Nat} {Q : State → Prop}
variable {cc : ByteArray} {pc : Nat} {ls : Array Slot} {rest : List Value} {D : va_G} {H0 : Heap} {q : ow_Q5} {u : Nat → Nat} {z : ow_MS} {O : Type} {out : O}

theorem mw_preS_a (hK : va_K D vwCl (tw_T q RX12) s) (hN : ow_NM s) (hM : tw_M D vwCl mX_a q H0 u z H locs) {As : List Value} : PreS s H (va_Pc As (mw_pre_a D q u z)) As := by
  refine ⟨fun a U g mk q => by obtain ⟨q0, qP, qK, qN⟩ := q; exact ⟨q0, qP, va_K.moved (u := U) (U := U.calling g mk a) (Vm.Alike.refl U.vm) qK, ow_NM.same (v := U) (U := U.calling g mk a) rfl qN⟩, fun U hU hW => ⟨rfl, by rw [hU]; exact hM.1, va_K.moved hW.alike hK, ow_NM.warm hW hN⟩⟩
theorem mw_preV_a (hK : va_K D vwCl (tw_T q RX12) s) (hN : ow_NM s) (hM : tw_M D vwCl mX_a q H0 u z H locs) {h ci : Nat} {fs : List (Nat × Nat)} (hh : tw_ob mX_a h ci fs) {r : vw_C} (hc : vwCl[ci]? = some r) {As : List Value} : PreV s H r.1 (u h) (va_Pc (.ref (u h) :: As) (mw_pre_a D q u z)) As := by
  obtain ⟨k, hk, _⟩ := tw_at mX_ok_a hh.1
  have h1 := hk q u z
  rw [tw_c9 q u z hh] at h1
  exact ⟨(mw_preS_a hK hN hM).1, va_recv hK hM.1 hc h1, (mw_preS_a hK hN hM).2⟩

theorem mg13_329_a (hx : p.tables.exec = Jvm.exec) (hb : c.code = cc) (hT : ∀ w ∈ wM_a, w.before args s = true) (hown : s.vm.findClass RX13 = some m.cls) (hK : va_K D vwCl (tw_T q RX12) s) (hM : tw_M D vwCl mX_a q H0 u z H locs) (hdg : decode cc pc = .ok (.getfield 329, 3)) (kk : W p l e R s m args below meth c H locs cells slots Q (F0 m (pc + 3) ls (.ref (u 97) :: rest))) : W p l e R s m args below meth c H locs cells slots Q (F0 m pc ls (.ref (u 0) :: rest)) := tw_getR (C := RX13) (T := TX13) (N := 120) mX_ok_a hx hb hT wM_13_a hown hK hM mo_0_a rfl 96 (by decide) (hT _ wq_0_a) (fun _ h9 => h9) rfl hdg kk
theorem mg13_332_a (hx : p.tables.exec = Jvm.exec) (hb : c.code = cc) (hT : ∀ w ∈ wM_a, w.before args s = true) (hown : s.vm.findClass RX13 = some m.cls) (hK : va_K D vwCl (tw_T q RX12) s) (hM : tw_M D vwCl mX_a q H0 u z H locs) (hdg : decode cc pc = .ok (.getfield 332, 3)) (kk : W p l e R s m args below meth c H locs cells slots Q (F0 m (pc + 3) ls (.ref (u 98) :: rest))) : W p l e R s m args below meth c H locs cells slots Q (F0 m pc ls (.ref (u 0) :: rest)) := tw_getR (C := RX13) (T := TX13) (N := 120) mX_ok_a hx hb hT wM_13_a hown hK hM mo_0_a rfl 97 (by decide) (hT _ wq_1_a) (fun _ h9 => h9) rfl hdg kk
theorem mg13_268_a (hx : p.tables.exec = Jvm.exec) (hb : c.code = cc) (hT : ∀ w ∈ wM_a, w.before args s = true) (hown : s.vm.findClass RX13 = some m.cls) (hK : va_K D vwCl (tw_T q RX12) s) (hM : tw_M D vwCl mX_a q H0 u z H locs) (hdg : decode cc pc = .ok (.getfield 268, 3)) (kk : W p l e R s m args below meth c H locs cells slots Q (F0 m (pc + 3) ls (.ref (u 74) :: rest))) : W p l e R s m args below meth c H locs cells slots Q (F0 m pc ls (.ref (u 0) :: rest)) := tw_getR (C := RX13) (T := TX13) (N := 120) mX_ok_a hx hb hT wM_13_a hown hK hM mo_0_a rfl 73 (by decide) (hT _ wq_3_a) (fun _ h9 => h9) rfl hdg kk
theorem mg13_338_a (hx : p.tables.exec = Jvm.exec) (hb : c.code = cc) (hT : ∀ w ∈ wM_a, w.before args s = true) (hown : s.vm.findClass RX13 = some m.cls) (hK : va_K D vwCl (tw_T q RX12) s) (hM : tw_M D vwCl mX_a q H0 u z H locs) (hdg : decode cc pc = .ok (.getfield 338, 3)) (kk : W p l e R s m args below meth c H locs cells slots Q (F0 m (pc + 3) ls (.ref (u 100) :: rest))) : W p l e R s m args below meth c H locs cells slots Q (F0 m pc ls (.ref (u 0) :: rest)) := tw_getR (C := RX13) (T := TX13) (N := 120) mX_ok_a hx hb hT wM_13_a hown hK hM mo_0_a rfl 99 (by decide) (hT _ wq_5_a) (fun _ h9 => h9) rfl hdg kk
theorem mg13_359_a (hx : p.tables.exec = Jvm.exec) (hb : c.code = cc) (hT : ∀ w ∈ wM_a, w.before args s = true) (hown : s.vm.findClass RX13 = some m.cls) (hK : va_K D vwCl (tw_T q RX12) s) (hM : tw_M D vwCl mX_a q H0 u z H locs) (hdg : decode cc pc = .ok (.getfield 359, 3)) (kk : W p l e R s m args below meth c H locs cells slots Q (F0 m (pc + 3) ls (.ref (u 107) :: rest))) : W p l e R s m args below meth c H locs cells slots Q (F0 m pc ls (.ref (u 0) :: rest)) := tw_getR (C := RX13) (T := TX13) (N := 120) mX_ok_a hx hb hT wM_13_a hown hK hM mo_0_a rfl 106 (by decide) (hT _ wq_6_a) (fun _ h9 => h9) rfl hdg kk
theorem mg13_335_a (hx : p.tables.exec = Jvm.exec) (hb : c.code = cc) (hT : ∀ w ∈ wM_a, w.before args s = true) (hown : s.vm.findClass RX13 = some m.cls) (hK : va_K D vwCl (tw_T q RX12) s) (hM : tw_M D vwCl mX_a q H0 u z H locs) (hdg : decode cc pc = .ok (.getfield 335, 3)) (kk : W p l e R s m args below meth c H locs cells slots Q (F0 m (pc + 3) ls (.ref (u 99) :: rest))) : W p l e R s m args below meth c H locs cells slots Q (F0 m pc ls (.ref (u 0) :: rest)) := tw_getR (C := RX13) (T := TX13) (N := 120) mX_ok_a hx hb hT wM_13_a hown hK hM mo_0_a rfl 98 (by decide) (hT _ wq_7_a) (fun _ h9 => h9) rfl hdg kk
theorem mg13_341_a (hx : p.tables.exec = Jvm.exec) (hb : c.code = cc) (hT : ∀ w ∈ wM_a, w.before args s = true) (hown : s.vm.findClass RX13 = some m.cls) (hK : va_K D vwCl (tw_T q RX12) s) (hM : tw_M D vwCl mX_a q H0 u z H locs) (hdg : decode cc pc = .ok (.getfield 341, 3)) (kk : W p l e R s m args below meth c H locs cells slots Q (F0 m (pc + 3) ls (.ref (u 101) :: rest))) : W p l e R s m args below meth c H locs cells slots Q (F0 m pc ls (.ref (u 0) :: rest)) := tw_getR (C := RX13) (T := TX13) (N := 120) mX_ok_a hx hb hT wM_13_a hown hK hM mo_0_a rfl 100 (by decide) (hT _ wq_12_a) (fun _ h9 => h9) rfl hdg kk
theorem mg13_350_a (hx : p.tables.exec = Jvm.exec) (hb : c.code = cc) (hT : ∀ w ∈ wM_a, w.before args s = true) (hown : s.vm.findClass RX13 = some m.cls) (hK : va_K D vwCl (tw_T q RX12) s) (hM : tw_M D vwCl mX_a q H0 u z H locs) (hdg : decode cc pc = .ok (.getfield 350, 3)) (kk : W p l e R s m args below meth c H locs cells slots Q (F0 m (pc + 3) ls (.ref (u 104) :: rest))) : W p l e R s m args below meth c H locs cells slots Q (F0 m pc ls (.ref (u 0) :: rest)) := tw_getR (C := RX13) (T := TX13) (N := 120) mX_ok_a hx hb hT wM_13_a hown hK hM mo_0_a rfl 103 (by decide) (hT _ wq_13_a) (fun _ h9 => h9) rfl hdg kk
theorem mg13_353_a (hx : p.tables.exec = Jvm.exec) (hb : c.code = cc) (hT : ∀ w ∈ wM_a, w.before args s = true) (hown : s.vm.findClass RX13 = some m.cls) (hK : va_K D vwCl (tw_T q RX12) s) (hM : tw_M D vwCl mX_a q H0 u z H locs) (hdg : decode cc pc = .ok (.getfield 353, 3)) (kk : W p l e R s m args below meth c H locs cells slots Q (F0 m (pc + 3) ls (.ref (u 105) :: rest))) : W p l e R s m args below meth c H locs cells slots Q (F0 m pc ls (.ref (u 0) :: rest)) := tw_getR (C := RX13) (T := TX13) (N := 120) mX_ok_a hx hb hT wM_13_a hown hK hM mo_0_a rfl 104 (by decide) (hT _ wq_14_a) (fun _ h9 => h9) rfl hdg kk
theorem mg13_356_a (hx : p.tables.exec = Jvm.exec) (hb : c.code = cc) (hT : ∀ w ∈ wM_a, w.before args s = true) (hown : s.vm.findClass RX13 = some m.cls) (hK : va_K D vwCl (tw_T q RX12) s) (hM : tw_M D vwCl mX_a q H0 u z H locs) (hdg : decode cc pc = .ok (.getfield 356, 3)) (kk : W p l e R s m args below meth c H locs cells slots Q (F0 m (pc + 3) ls (.ref (u 106) :: rest))) : W p l e R s m args below meth c H locs cells slots Q (F0 m pc ls (.ref (u 0) :: rest)) := tw_getR (C := RX13) (T := TX13) (N := 120) mX_ok_a hx hb hT wM_13_a hown hK hM mo_0_a rfl 105 (by decide) (hT _ wq_16_a) (fun _ h9 => h9) rfl hdg kk
theorem mg13_344_a (hx : p.tables.exec = Jvm.exec) (hb : c.code = cc) (hT : ∀ w ∈ wM_a, w.before args s = true) (hown : s.vm.findClass RX13 = some m.cls) (hK : va_K D vwCl (tw_T q RX12) s) (hM : tw_M D vwCl mX_a q H0 u z H locs) (hdg : decode cc pc = .ok (.getfield 344, 3)) (kk : W p l e R s m args below meth c H locs cells slots Q (F0 m (pc + 3) ls (.ref (u 102) :: rest))) : W p l e R s m args below meth c H locs cells slots Q (F0 m pc ls (.ref (u 0) :: rest)) := tw_getR (C := RX13) (T := TX13) (N := 120) mX_ok_a hx hb hT wM_13_a hown hK hM mo_0_a rfl 101 (by decide) (hT _ wq_17_a) (fun _ h9 => h9) rfl hdg kk
theorem mg13_347_a (hx : p.tables.exec = Jvm.exec) (hb : c.code = cc) (hT : ∀ w ∈ wM_a, w.before args s = true) (hown : s.vm.findClass RX13 = some m.cls) (hK : va_K D vwCl (tw_T q RX12) s) (hM : tw_M D vwCl mX_a q H0 u z H locs) (hdg : decode cc pc = .ok (.getfield 347, 3)) (kk : W p l e R s m args below meth c H locs cells slots Q (F0 m (pc + 3) ls (.ref (u 103) :: rest))) : W p l e R s m args below meth c H locs cells slots Q (F0 m pc ls (.ref (u 0) :: rest)) := tw_getR (C := RX13) (T := TX13) (N := 120) mX_ok_a hx hb hT wM_13_a hown hK hM mo_0_a rfl 102 (by decide) (hT _ wq_18_a) (fun _ h9 => h9) rfl hdg kk
theorem mg13_271_a (hx : p.tables.exec = Jvm.exec) (hb : c.code = cc) (hT : ∀ w ∈ wM_a, w.before args s = true) (hown : s.vm.findClass RX13 = some m.cls) (hK : va_K D vwCl (tw_T q RX12) s) (hM : tw_M D vwCl mX_a q H0 u z H locs) (hdg : decode cc pc = .ok (.getfield 271, 3)) (kk : W p l e R s m args below meth c H locs cells slots Q (F0 m (pc + 3) ls (.ref (u 75) :: rest))) : W p l e R s m args below meth c H locs cells slots Q (F0 m pc ls (.ref (u 0) :: rest)) := tw_getR (C := RX13) (T := TX13) (N := 120) mX_ok_a hx hb hT wM_13_a hown hK hM mo_0_a rfl 74 (by decide) (hT _ wq_31_a) (fun _ h9 => h9) rfl hdg kk
theorem mg13_274_a (hx : p.tables.exec = Jvm.exec) (hb : c.code = cc) (hT : ∀ w ∈ wM_a, w.before args s = true) (hown : s.vm.findClass RX13 = some m.cls) (hK : va_K D vwCl (tw_T q RX12) s) (hM : tw_M D vwCl mX_a q H0 u z H locs) (hdg : decode cc pc = .ok (.getfield 274, 3)) (kk : W p l e R s m args below meth c H locs cells slots Q (F0 m (pc + 3) ls (.ref (u 76) :: rest))) : W p l e R s m args below meth c H locs cells slots Q (F0 m pc ls (.ref (u 0) :: rest)) := tw_getR (C := RX13) (T := TX13) (N := 120) mX_ok_a hx hb hT wM_13_a hown hK hM mo_0_a rfl 75 (by decide) (hT _ wq_32_a) (fun _ h9 => h9) rfl hdg kk
theorem mw_iret_a {x r : Int32} {z1 : ow_MS} (hx : p.tables.exec = Jvm.exec) (hb : c.code = cc) (hr : meth.sig.returnType = some .int) (hlocks : meth.locks = false) (hM : tw_M D vwCl mX_a q s.heap u z H locs) (hq : some (x, z) = some (r, z1)) (hQ : Q = MQ below (va_Qi (fun x (_ : Unit) => x = r) (fun _ t => va_P D vwCl (tw mX_a q u z1) t.heap) (tw_A mX_a u)) args s 0 0 (tw_A mX_a u)) (hdg : decode cc pc = .ok (.ireturn, 1)) : W p l e R s m args below meth c H locs 0 0 Q (F0 m pc ls [.int x]) := by
  obtain ⟨rfl, rfl⟩ := Prod.mk.inj (Option.some.inj hq)
  rw [hQ]
  exact W.iret (v := x) hx hb hr (fun t ht hW => ⟨⟨x, (), rfl, rfl, by show va_P D vwCl (tw mX_a q u z) t.heap; rw [ht]; exact hM.1⟩, hM.2.F ht⟩) hM.2.2.2 hdg hlocks
theorem mw_vret_a {z1 : ow_MS} (hx : p.tables.exec = Jvm.exec) (hb : c.code = cc) (hr : meth.sig.returnType = none) (hlocks : meth.locks = false) (hM : tw_M D vwCl mX_a q s.heap u z H locs) (hq : some z = some z1) (hQ : Q = MQ below (va_Qv (fun (_ : Unit) => True) (fun _ t => va_P D vwCl (tw mX_a q u z1) t.heap) (tw_A mX_a u)) args s 0 0 (tw_A mX_a u)) (hdg : decode cc pc = .ok (.return_, 1)) : W p l e R s m args below meth c H locs 0 0 Q (F0 m pc ls []) := by
  obtain rfl := Option.some.inj hq
  rw [hQ]
  exact W.vret hx hb hr (fun t ht hW => ⟨⟨(), rfl, trivial, by show va_P D vwCl (tw mX_a q u z) t.heap; rw [ht]; exact hM.1⟩, hM.2.F ht⟩) hM.2.2.2 hdg hlocks
end MRULES
theorem dmX13_find_0_a : decode cX13_find 0 = .ok (.iconst 0, 1) := dw_at cX13_find_k0 (p := 0) rfl (by decide +kernel)
theorem dmX13_find_1_a : decode cX13_find 1 = .ok (.istore_n 3, 1) := dw_at cX13_find_k0 (p := 1) rfl (by decide +kernel)
theorem dmX13_find_2_a : decode cX13_find 2 = .ok (.iload_n 3, 1) := dw_at cX13_find_k0 (p := 2) rfl (by decide +kernel)
theorem dmX13_find_3_a : decode cX13_find 3 = .ok (.aload_n 0, 1) := dw_at cX13_find_k0 (p := 3) rfl (by decide +kernel)
theorem dmX13_find_4_a : decode cX13_find 4 = .ok (.getfield 329, 3) := dw_at cX13_find_k0 (p := 4) rfl (by decide +kernel)
theorem dmX13_find_7_a : decode cX13_find 7 = .ok (.iload_n 1, 1) := dw_at cX13_find_k0 (p := 7) rfl (by decide +kernel)
theorem dmX13_find_8_a : decode cX13_find 8 = .ok (.iaload, 1) := dw_at cX13_find_k0 (p := 8) rfl (by decide +kernel)
theorem dmX13_find_9_a : decode cX13_find 9 = .ok (.if_icmp .ge 67, 3) := dw_at cX13_find_k0 (p := 9) rfl (by decide +kernel)
theorem dmX13_find_12_a : decode cX13_find 12 = .ok (.iconst 1, 1) := dw_at cX13_find_k0 (p := 12) rfl (by decide +kernel)
theorem dmX13_find_13_a : decode cX13_find 13 = .ok (.istore 4, 2) := dw_at cX13_find_k0 (p := 13) rfl (by decide +kernel)
theorem dmX13_find_15_a : decode cX13_find 15 = .ok (.iconst 0, 1) := dw_at cX13_find_k0 (p := 15) rfl (by decide +kernel)
theorem dmX13_find_16_a : decode cX13_find 16 = .ok (.istore 5, 2) := dw_at cX13_find_k0 (p := 16) rfl (by decide +kernel)
theorem dmX13_find_18_a : decode cX13_find 18 = .ok (.iload 5, 2) := dw_at cX13_find_k0 (p := 18) rfl (by decide +kernel)
theorem dmX13_find_20_a : decode cX13_find 20 = .ok (.iload_n 1, 1) := dw_at cX13_find_k0 (p := 20) rfl (by decide +kernel)
theorem dmX13_find_21_a : decode cX13_find 21 = .ok (.if_icmp .ge 42, 3) := dw_at cX13_find_k0 (p := 21) rfl (by decide +kernel)
theorem dmX13_find_24_a : decode cX13_find 24 = .ok (.iload 4, 2) := dw_at cX13_find_k1 (p := 0) rfl (by decide +kernel)
theorem dmX13_find_26_a : decode cX13_find 26 = .ok (.aload_n 0, 1) := dw_at cX13_find_k1 (p := 2) rfl (by decide +kernel)
theorem dmX13_find_27_a : decode cX13_find 27 = .ok (.getfield 332, 3) := dw_at cX13_find_k1 (p := 3) rfl (by decide +kernel)
theorem dmX13_find_30_a : decode cX13_find 30 = .ok (.iconst 5, 1) := dw_at cX13_find_k1 (p := 6) rfl (by decide +kernel)
theorem dmX13_find_31_a : decode cX13_find 31 = .ok (.bipush 120, 2) := dw_at cX13_find_k1 (p := 7) rfl (by decide +kernel)
theorem dmX13_find_33_a : decode cX13_find 33 = .ok (.iload_n 1, 1) := dw_at cX13_find_k1 (p := 9) rfl (by decide +kernel)
theorem dmX13_find_34_a : decode cX13_find 34 = .ok (.imul, 1) := dw_at cX13_find_k1 (p := 10) rfl (by decide +kernel)
theorem dmX13_find_35_a : decode cX13_find 35 = .ok (.iload_n 3, 1) := dw_at cX13_find_k1 (p := 11) rfl (by decide +kernel)
theorem dmX13_find_36_a : decode cX13_find 36 = .ok (.iadd, 1) := dw_at cX13_find_k1 (p := 12) rfl (by decide +kernel)
theorem dmX13_find_37_a : decode cX13_find 37 = .ok (.imul, 1) := dw_at cX13_find_k1 (p := 13) rfl (by decide +kernel)
theorem dmX13_find_38_a : decode cX13_find 38 = .ok (.iload 5, 2) := dw_at cX13_find_k1 (p := 14) rfl (by decide +kernel)
theorem dmX13_find_40_a : decode cX13_find 40 = .ok (.iadd, 1) := dw_at cX13_find_k1 (p := 16) rfl (by decide +kernel)
theorem dmX13_find_41_a : decode cX13_find 41 = .ok (.iaload, 1) := dw_at cX13_find_k1 (p := 17) rfl (by decide +kernel)
theorem dmX13_find_42_a : decode cX13_find 42 = .ok (.aload_n 2, 1) := dw_at cX13_find_k1 (p := 18) rfl (by decide +kernel)
theorem dmX13_find_43_a : decode cX13_find 43 = .ok (.iload 5, 2) := dw_at cX13_find_k1 (p := 19) rfl (by decide +kernel)
theorem dmX13_find_45_a : decode cX13_find 45 = .ok (.iaload, 1) := dw_at cX13_find_k1 (p := 21) rfl (by decide +kernel)
theorem dmX13_find_46_a : decode cX13_find 46 = .ok (.if_icmp .ne 7, 3) := dw_at cX13_find_k1 (p := 22) rfl (by decide +kernel)
theorem dmX13_find_49_a : decode cX13_find 49 = .ok (.iconst 1, 1) := dw_at cX13_find_k2 (p := 0) rfl (by decide +kernel)
theorem dmX13_find_50_a : decode cX13_find 50 = .ok (.goto 4, 3) := dw_at cX13_find_k2 (p := 1) rfl (by decide +kernel)
theorem dmX13_find_53_a : decode cX13_find 53 = .ok (.iconst 0, 1) := dw_at cX13_find_k2 (p := 4) rfl (by decide +kernel)
theorem dmX13_find_54_a : decode cX13_find 54 = .ok (.iand, 1) := dw_at cX13_find_k2 (p := 5) rfl (by decide +kernel)
theorem dmX13_find_55_a : decode cX13_find 55 = .ok (.istore 4, 2) := dw_at cX13_find_k2 (p := 6) rfl (by decide +kernel)
theorem dmX13_find_57_a : decode cX13_find 57 = .ok (.iinc 5 1, 3) := dw_at cX13_find_k2 (p := 8) rfl (by decide +kernel)
theorem dmX13_find_60_a : decode cX13_find 60 = .ok (.goto (-42), 3) := dw_at cX13_find_k2 (p := 11) rfl (by decide +kernel)
theorem dmX13_find_63_a : decode cX13_find 63 = .ok (.iload 4, 2) := dw_at cX13_find_k2 (p := 14) rfl (by decide +kernel)
theorem dmX13_find_65_a : decode cX13_find 65 = .ok (.ifCond .eq 5, 3) := dw_at cX13_find_k2 (p := 16) rfl (by decide +kernel)
theorem dmX13_find_68_a : decode cX13_find 68 = .ok (.iload_n 3, 1) := dw_at cX13_find_k2 (p := 19) rfl (by decide +kernel)
theorem dmX13_find_69_a : decode cX13_find 69 = .ok (.ireturn, 1) := dw_at cX13_find_k2 (p := 20) rfl (by decide +kernel)
theorem dmX13_find_70_a : decode cX13_find 70 = .ok (.iinc 3 1, 3) := dw_at cX13_find_k2 (p := 21) rfl (by decide +kernel)
theorem dmX13_find_73_a : decode cX13_find 73 = .ok (.goto (-71), 3) := dw_at cX13_find_k2 (p := 24) rfl (by decide +kernel)
theorem dmX13_find_76_a : decode cX13_find 76 = .ok (.iconst (-1), 1) := dw_at cX13_find_k2 (p := 27) rfl (by decide +kernel)
theorem dmX13_find_77_a : decode cX13_find 77 = .ok (.ireturn, 1) := dw_at cX13_find_k2 (p := 28) rfl (by decide +kernel)
def qm_X13_find_0_a (K : Nat) (go : Nat → Int32 → Int32 → Int32 → Int32 → Nat → Int32 → Int32 → ow_MS → Option (Int32 × ow_MS)) (x1 : Int32) (x3 : Int32) (x4 : Int32) (x5 : Int32) (r2 : Nat) (t0 : Int32) (t1 : Int32) (z : ow_MS) : Option (Int32 × ow_MS) :=
 go 1 x1 0 0 0 r2 0 0 z
def qm_X13_find_1_a (K : Nat) (go : Nat → Int32 → Int32 → Int32 → Int32 → Nat → Int32 → Int32 → ow_MS → Option (Int32 × ow_MS)) (x1 : Int32) (x3 : Int32) (x4 : Int32) (x5 : Int32) (r2 : Nat) (t0 : Int32) (t1 : Int32) (z : ow_MS) : Option (Int32 × ow_MS) :=
 rdI mX_a z 97 x1 fun v1 => (if v1 ≤ x3 then some ((-1), z)
 else go 2 x1 x3 1 0 r2 0 0 z)
def qm_X13_find_2_a (K : Nat) (go : Nat → Int32 → Int32 → Int32 → Int32 → Nat → Int32 → Int32 → ow_MS → Option (Int32 × ow_MS)) (x1 : Int32) (x3 : Int32) (x4 : Int32) (x5 : Int32) (r2 : Nat) (t0 : Int32) (t1 : Int32) (z : ow_MS) : Option (Int32 × ow_MS) :=
 (if x1 ≤ x5 then (if x4 = 0 then go 1 x1 (x3 + 1) 0 0 r2 0 0 z
 else some (x3, z))
 else rdI mX_a z 98 ((5 * ((120 * x1) + x3)) + x5) fun v2 => rdI mX_a z r2 x5 fun v3 => (if v2 = v3 then go 3 x1 x3 x4 x5 r2 1 x4 z
 else go 3 x1 x3 x4 x5 r2 0 x4 z))
def qm_X13_find_3_a (K : Nat) (go : Nat → Int32 → Int32 → Int32 → Int32 → Nat → Int32 → Int32 → ow_MS → Option (Int32 × ow_MS)) (x1 : Int32) (x3 : Int32) (x4 : Int32) (x5 : Int32) (r2 : Nat) (t0 : Int32) (t1 : Int32) (z : ow_MS) : Option (Int32 × ow_MS) :=
 go 2 x1 x3 (t1 &&& t0) (x5 + 1) r2 0 0 z
def qb_X13_find_a (K : Nat) (go : Nat → Int32 → Int32 → Int32 → Int32 → Nat → Int32 → Int32 → ow_MS → Option (Int32 × ow_MS)) (L : Nat) (x1 : Int32) (x3 : Int32) (x4 : Int32) (x5 : Int32) (r2 : Nat) (t0 : Int32) (t1 : Int32) (z : ow_MS) : Option (Int32 × ow_MS) := match L with
  | 0 => qm_X13_find_0_a K go x1 x3 x4 x5 r2 t0 t1 z
  | 1 => qm_X13_find_1_a K go x1 x3 x4 x5 r2 t0 t1 z
  | 2 => qm_X13_find_2_a K go x1 x3 x4 x5 r2 t0 t1 z
  | 3 => qm_X13_find_3_a K go x1 x3 x4 x5 r2 t0 t1 z
  | _ => none
def q_X13_find_a (K : Nat) : Nat → Nat → Int32 → Int32 → Int32 → Int32 → Nat → Int32 → Int32 → ow_MS → Option (Int32 × ow_MS)
  | 0 => fun _ _ _ _ _ _ _ _ _ => none
  | k + 1 => qb_X13_find_a K (q_X13_find_a K k)
def qe_X13_find_a (K : Nat) (x1 : Int32) (r2 : Nat) (z : ow_MS) : Option (Int32 × ow_MS) := q_X13_find_a K K 0 x1 0 0 0 r2 0 0 z
abbrev wm_X13_find_a : List Cond := .code yX13_find cX13_find 6 (some .int) :: wM_a
theorem cd_X13_find_a : yX13_find.cls = RX13 ∧ yX13_find.cls ≠ "java/lang/invoke/MethodHandle" ∧ yX13_find.cls ≠ "java/lang/invoke/VarHandle" ∧ (parseMethodDescriptor yX13_find.desc).map (fun d => d.parameters.length) = some 2 := by decide +kernel
set_option maxHeartbeats 4000000 in
set_option maxRecDepth 100000 in
theorem km_X13_find_a (l : Launch) (D : va_G) (q : ow_Q5) (u : Nat → Nat) (hU : tw_inj mX_a u) (K : Nat) (x1 : Int32) (r2 : Nat) (hr2 : tw_in mX_a r2 0) (z z1 : ow_MS) (r : Int32) (hq : qe_X13_find_a K x1 r2 z = some (r, z1)) : Met l yX13_find wm_X13_find_a ({ frames := 0, cells := 0, slots := 0, locals := 0 } : Room) (va_Pc [.ref (u 0), .int x1, .ref (u r2)] (mw_pre_a D q u z)) (va_Qi (fun x (_ : Unit) => x = r) (fun _ t => va_P D vwCl (tw mX_a q u z1) t.heap) (tw_A mX_a u)) 0 0 (tw_A mX_a u) := by
  refine Met.ofW (cc := cX13_find) (maxL := 6) (ret := (some .int)) (by decide) rfl ?_
  intro p e s m args below meth c s₁ B hml hv
  obtain ⟨rfl, hP, hK, hN⟩ := hv
  have hx := B.exec
  have hb := B.bytes
  have hr := B.returns
  have hts := atoms_spec (ws := wm_X13_find_a) B.pre
  have hT : ∀ w ∈ wM_a, w.before ([.ref (u 0), .int x1, .ref (u r2)] : List Value).toArray s = true := fun w h => hts w (List.mem_cons_of_mem _ h)
  have hown : s.vm.findClass RX13 = some m.cls := findClass_of_methodNamed B.named
  have hlocks := B.notSynchronized
  have hM : tw_M D vwCl mX_a q s.heap u z s.heap [] := ⟨hP, va_S.rf⟩
  have hl := lv_entry ([.ref (u 0), .int x1, .ref (u r2)]) (n := 6) (Nat.le_of_ble_eq_true rfl)
  rw [lg_entry_eq]
  generalize (lg_sl ([.ref (u 0), .int x1, .ref (u r2)]) ++ List.replicate (6 - (lg_sl ([.ref (u 0), .int x1, .ref (u r2)])).length) Slot.unset).toArray = ls at hl ⊢
  have hl : lv_has ls 6 [(0, .ref (u 0)), (1, .int x1), (2, .ref (u r2))] := hl
  refine ow_named (fun QQ hQQ => ?_)
  generalize ([.ref (u 0), .int x1, .ref (u r2)] : List Value).toArray = args at hts hT hQQ ⊢
  have key : ∀ k : Nat, (∀ (x1 : Int32) (x3 : Int32) (x4 : Int32) (x5 : Int32) (r2 : Nat) (t0 : Int32) (t1 : Int32) (z : ow_MS) (H : Heap) (locs : List Loc) (ls : Array Slot), tw_in mX_a r2 0 → tw_M D vwCl mX_a q s.heap u z H locs → lv_has ls 6 [(0, .ref (u 0)), (1, .int x1), (2, .ref (u r2))] → q_X13_find_a K k 0 x1 x3 x4 x5 r2 t0 t1 z = some (r, z1) → W p l e ({ frames := 0, cells := 0, slots := 0, locals := 0 } : Room) s m args below meth c H locs 0 0 QQ (F0 m 0 ls [])) ∧ (∀ (x1 : Int32) (x3 : Int32) (x4 : Int32) (x5 : Int32) (r2 : Nat) (t0 : Int32) (t1 : Int32) (z : ow_MS) (H : Heap) (locs : List Loc) (ls : Array Slot), tw_in mX_a r2 0 → tw_M D vwCl mX_a q s.heap u z H locs → lv_has ls 6 [(0, .ref (u 0)), (1, .int x1), (2, .ref (u r2)), (3, .int x3)] → q_X13_find_a K k 1 x1 x3 x4 x5 r2 t0 t1 z = some (r, z1) → W p l e ({ frames := 0, cells := 0, slots := 0, locals := 0 } : Room) s m args below meth c H locs 0 0 QQ (F0 m 2 ls [])) ∧ (∀ (x1 : Int32) (x3 : Int32) (x4 : Int32) (x5 : Int32) (r2 : Nat) (t0 : Int32) (t1 : Int32) (z : ow_MS) (H : Heap) (locs : List Loc) (ls : Array Slot), tw_in mX_a r2 0 → tw_M D vwCl mX_a q s.heap u z H locs → lv_has ls 6 [(0, .ref (u 0)), (1, .int x1), (2, .ref (u r2)), (3, .int x3), (4, .int x4), (5, .int x5)] → q_X13_find_a K k 2 x1 x3 x4 x5 r2 t0 t1 z = some (r, z1) → W p l e ({ frames := 0, cells := 0, slots := 0, locals := 0 } : Room) s m args below meth c H locs 0 0 QQ (F0 m 18 ls [])) ∧ (∀ (x1 : Int32) (x3 : Int32) (x4 : Int32) (x5 : Int32) (r2 : Nat) (t0 : Int32) (t1 : Int32) (z : ow_MS) (H : Heap) (locs : List Loc) (ls : Array Slot), tw_in mX_a r2 0 → tw_M D vwCl mX_a q s.heap u z H locs → lv_has ls 6 [(0, .ref (u 0)), (1, .int x1), (2, .ref (u r2)), (3, .int x3), (4, .int x4), (5, .int x5)] → q_X13_find_a K k 3 x1 x3 x4 x5 r2 t0 t1 z = some (r, z1) → W p l e ({ frames := 0, cells := 0, slots := 0, locals := 0 } : Room) s m args below meth c H locs 0 0 QQ (F0 m 54 ls [.int t0, .int t1])) := by
    intro k
    induction k with
    | zero => exact ⟨fun _ _ _ _ _ _ _ _ _ _ _ _ _ _ hq => tw_no hq, fun _ _ _ _ _ _ _ _ _ _ _ _ _ _ hq => tw_no hq, fun _ _ _ _ _ _ _ _ _ _ _ _ _ _ hq => tw_no hq, fun _ _ _ _ _ _ _ _ _ _ _ _ _ _ hq => tw_no hq⟩
    | succ k ih =>
      obtain ⟨ih_0, ih_1, ih_2, ih_3⟩ := ih
      refine ⟨?_, ?_, ?_, ?_⟩
      · intro x1 x3 x4 x5 r2 t0 t1 z H locs ls hr2 hM hl hq
        have hq : qm_X13_find_0_a K (q_X13_find_a K k) x1 x3 x4 x5 r2 t0 t1 z = some (r, z1) := hq
        unfold qm_X13_find_0_a at hq
        refine lv_iconst (v := 0) hx hb dmX13_find_0_a (by decide) ?_
        refine lv_istore_n (lv' := [(3, .int 0), (0, .ref (u 0)), (1, .int x1), (2, .ref (u r2))]) hx hb dmX13_find_1_a rfl hl (by decide) rfl (fun ls hl => ?_)
        exact ih_1 x1 0 0 0 r2 0 0 z H locs ls hr2 hM (lv_sub hl [1, 2, 3, 0] rfl) hq
      · intro x1 x3 x4 x5 r2 t0 t1 z H locs ls hr2 hM hl hq
        have hq : qm_X13_find_1_a K (q_X13_find_a K k) x1 x3 x4 x5 r2 t0 t1 z = some (r, z1) := hq
        unfold qm_X13_find_1_a at hq
        refine lv_iload_n hx hb dmX13_find_2_a rfl (lv_at hl 3 rfl) ?_
        refine lv_aload_n hx hb dmX13_find_3_a rfl (lv_at hl 0 rfl) ?_
        refine mg13_329_a hx hb hT hown hK hM dmX13_find_4_a ?_
        refine lv_iload_n hx hb dmX13_find_7_a rfl (lv_at hl 1 rfl) ?_
        refine tw_iald mX_ok_a hx hb hK hM mr_97_a hq dmX13_find_8_a (fun v1 hq => ?_)
        refine lv_icmp_ge (tgt := 76) hx hb dmX13_find_9_a (by decide) (fun hc => ?_) (fun hc => ?_)
        · have hq := tw_it hq hc
          refine lv_iconst (v := (-1)) hx hb dmX13_find_76_a (by decide) ?_
          exact mw_iret_a hx hb hr hlocks hM hq hQQ dmX13_find_77_a
        · have hq := tw_if hq hc
          refine lv_iconst (v := 1) hx hb dmX13_find_12_a (by decide) ?_
          refine lv_istore (lv' := [(4, .int 1), (0, .ref (u 0)), (1, .int x1), (2, .ref (u r2)), (3, .int x3)]) hx hb dmX13_find_13_a hl (by decide) rfl (fun ls hl => ?_)
          refine lv_iconst (v := 0) hx hb dmX13_find_15_a (by decide) ?_
          refine lv_istore (lv' := [(5, .int 0), (4, .int 1), (0, .ref (u 0)), (1, .int x1), (2, .ref (u r2)), (3, .int x3)]) hx hb dmX13_find_16_a hl (by decide) rfl (fun ls hl => ?_)
          exact ih_2 x1 x3 1 0 r2 0 0 z H locs ls hr2 hM (lv_sub hl [2, 3, 4, 5, 1, 0] rfl) hq
      · intro x1 x3 x4 x5 r2 t0 t1 z H locs ls hr2 hM hl hq
        have hq : qm_X13_find_2_a K (q_X13_find_a K k) x1 x3 x4 x5 r2 t0 t1 z = some (r, z1) := hq
        unfold qm_X13_find_2_a at hq
        refine lv_iload hx hb dmX13_find_18_a (lv_at hl 5 rfl) ?_
        refine lv_iload_n hx hb dmX13_find_20_a rfl (lv_at hl 1 rfl) ?_
        refine lv_icmp_ge (tgt := 63) hx hb dmX13_find_21_a (by decide) (fun hc => ?_) (fun hc => ?_)
        · have hq := tw_it hq hc
          refine lv_iload hx hb dmX13_find_63_a (lv_at hl 4 rfl) ?_
          refine lv_if_eq (tgt := 70) hx hb dmX13_find_65_a (by decide) (fun hc => ?_) (fun hc => ?_)
          · have hq := tw_it hq hc
            refine lv_iinc (v := (x3 + 1)) (lv' := [(3, .int (x3 + 1)), (0, .ref (u 0)), (1, .int x1), (2, .ref (u r2)), (4, .int x4), (5, .int x5)]) hx hb dmX13_find_70_a hl (k := 3) rfl rfl (by decide) rfl (fun ls hl => ?_)
            refine lv_goto (tgt := 2) hx hb dmX13_find_73_a (by decide) ?_
            exact ih_1 x1 (x3 + 1) 0 0 r2 0 0 z H locs ls hr2 hM (lv_sub hl [1, 2, 3, 0] rfl) hq
          · have hq := tw_if hq hc
            refine lv_iload_n hx hb dmX13_find_68_a rfl (lv_at hl 3 rfl) ?_
            exact mw_iret_a hx hb hr hlocks hM hq hQQ dmX13_find_69_a
        · have hq := tw_if hq hc
          refine lv_iload hx hb dmX13_find_24_a (lv_at hl 4 rfl) ?_
          refine lv_aload_n hx hb dmX13_find_26_a rfl (lv_at hl 0 rfl) ?_
          refine mg13_332_a hx hb hT hown hK hM dmX13_find_27_a ?_
          refine lv_iconst (v := 5) hx hb dmX13_find_30_a (by decide) ?_
          refine lv_bipush (v := 120) hx hb dmX13_find_31_a (by decide) ?_
          refine lv_iload_n hx hb dmX13_find_33_a rfl (lv_at hl 1 rfl) ?_
          refine lv_imul hx hb dmX13_find_34_a ?_
          refine lv_iload_n hx hb dmX13_find_35_a rfl (lv_at hl 3 rfl) ?_
          refine lv_iadd hx hb dmX13_find_36_a ?_
          refine lv_imul hx hb dmX13_find_37_a ?_
          refine lv_iload hx hb dmX13_find_38_a (lv_at hl 5 rfl) ?_
          refine lv_iadd hx hb dmX13_find_40_a ?_
          refine tw_iald mX_ok_a hx hb hK hM mr_98_a hq dmX13_find_41_a (fun v2 hq => ?_)
          refine lv_aload_n hx hb dmX13_find_42_a rfl (lv_at hl 2 rfl) ?_
          refine lv_iload hx hb dmX13_find_43_a (lv_at hl 5 rfl) ?_
          refine tw_iald mX_ok_a hx hb hK hM hr2 hq dmX13_find_45_a (fun v3 hq => ?_)
          refine lv_icmp_ne (tgt := 53) hx hb dmX13_find_46_a (by decide) (fun hc => ?_) (fun hc => ?_)
          · have hq := tw_if hq hc
            refine lv_iconst (v := 0) hx hb dmX13_find_53_a (by decide) ?_
            exact ih_3 x1 x3 x4 x5 r2 0 x4 z H locs ls hr2 hM (lv_sub hl [0, 1, 2, 3, 4, 5] rfl) hq
          · have hq := tw_it hq hc
            refine lv_iconst (v := 1) hx hb dmX13_find_49_a (by decide) ?_
            refine lv_goto (tgt := 54) hx hb dmX13_find_50_a (by decide) ?_
            exact ih_3 x1 x3 x4 x5 r2 1 x4 z H locs ls hr2 hM (lv_sub hl [0, 1, 2, 3, 4, 5] rfl) hq
      · intro x1 x3 x4 x5 r2 t0 t1 z H locs ls hr2 hM hl hq
        have hq : qm_X13_find_3_a K (q_X13_find_a K k) x1 x3 x4 x5 r2 t0 t1 z = some (r, z1) := hq
        unfold qm_X13_find_3_a at hq
        refine lv_iand hx hb dmX13_find_54_a ?_
        refine lv_istore (lv' := [(4, .int (t1 &&& t0)), (0, .ref (u 0)), (1, .int x1), (2, .ref (u r2)), (3, .int x3), (5, .int x5)]) hx hb dmX13_find_55_a hl (by decide) rfl (fun ls hl => ?_)
        refine lv_iinc (v := (x5 + 1)) (lv' := [(5, .int (x5 + 1)), (4, .int (t1 &&& t0)), (0, .ref (u 0)), (1, .int x1), (2, .ref (u r2)), (3, .int x3)]) hx hb dmX13_find_57_a hl (k := 5) rfl rfl (by decide) rfl (fun ls hl => ?_)
        refine lv_goto (tgt := 18) hx hb dmX13_find_60_a (by decide) ?_
        exact ih_2 x1 x3 (t1 &&& t0) (x5 + 1) r2 0 0 z H locs ls hr2 hM (lv_sub hl [2, 3, 4, 5, 1, 0] rfl) hq
  exact (key K).1 x1 0 0 0 r2 0 0 z s.heap [] ls hr2 hM (lv_sub hl [0, 1, 2] rfl) hq
theorem dmX13_image_0_a : decode cX13_image 0 = .ok (.aload_n 0, 1) := by decide +kernel
theorem dmX13_image_1_a : decode cX13_image 1 = .ok (.getfield 268, 3) := by decide +kernel
theorem dmX13_image_4_a : decode cX13_image 4 = .ok (.bipush 96, 2) := by decide +kernel
theorem dmX13_image_6_a : decode cX13_image 6 = .ok (.iload_n 1, 1) := by decide +kernel
theorem dmX13_image_7_a : decode cX13_image 7 = .ok (.imul, 1) := by decide +kernel
theorem dmX13_image_8_a : decode cX13_image 8 = .ok (.iconst 4, 1) := by decide +kernel
theorem dmX13_image_9_a : decode cX13_image 9 = .ok (.iload_n 2, 1) := by decide +kernel
theorem dmX13_image_10_a : decode cX13_image 10 = .ok (.imul, 1) := by decide +kernel
theorem dmX13_image_11_a : decode cX13_image 11 = .ok (.iadd, 1) := by decide +kernel
theorem dmX13_image_12_a : decode cX13_image 12 = .ok (.iload_n 3, 1) := by decide +kernel
theorem dmX13_image_13_a : decode cX13_image 13 = .ok (.iadd, 1) := by decide +kernel
theorem dmX13_image_14_a : decode cX13_image 14 = .ok (.iaload, 1) := by decide +kernel
theorem dmX13_image_15_a : decode cX13_image 15 = .ok (.ireturn, 1) := by decide +kernel
def qm_X13_image_0_a (K : Nat) (x1 : Int32) (x2 : Int32) (x3 : Int32) (z : ow_MS) : Option (Int32 × ow_MS) :=
 rdI mX_a z 74 (((96 * x1) + (4 * x2)) + x3) fun v1 => some (v1, z)
def qe_X13_image_a (K : Nat) (x1 : Int32) (x2 : Int32) (x3 : Int32) (z : ow_MS) : Option (Int32 × ow_MS) := qm_X13_image_0_a K x1 x2 x3 z
abbrev wm_X13_image_a : List Cond := .code yX13_image cX13_image 4 (some .int) :: wM_a
theorem cd_X13_image_a : yX13_image.cls = RX13 ∧ yX13_image.cls ≠ "java/lang/invoke/MethodHandle" ∧ yX13_image.cls ≠ "java/lang/invoke/VarHandle" ∧ (parseMethodDescriptor yX13_image.desc).map (fun d => d.parameters.length) = some 3 := by decide +kernel
set_option maxHeartbeats 4000000 in
set_option maxRecDepth 100000 in
theorem km_X13_image_a (l : Launch) (D : va_G) (q : ow_Q5) (u : Nat → Nat) (hU : tw_inj mX_a u) (K : Nat) (x1 : Int32) (x2 : Int32) (x3 : Int32)  (z z1 : ow_MS) (r : Int32) (hq : qe_X13_image_a K x1 x2 x3 z = some (r, z1)) : Met l yX13_image wm_X13_image_a ({ frames := 0, cells := 0, slots := 0, locals := 0 } : Room) (va_Pc [.ref (u 0), .int x1, .int x2, .int x3] (mw_pre_a D q u z)) (va_Qi (fun x (_ : Unit) => x = r) (fun _ t => va_P D vwCl (tw mX_a q u z1) t.heap) (tw_A mX_a u)) 0 0 (tw_A mX_a u) := by
  refine Met.ofW (cc := cX13_image) (maxL := 4) (ret := (some .int)) (by decide) rfl ?_
  intro p e s m args below meth c s₁ B hml hv
  obtain ⟨rfl, hP, hK, hN⟩ := hv
  have hx := B.exec
  have hb := B.bytes
  have hr := B.returns
  have hts := atoms_spec (ws := wm_X13_image_a) B.pre
  have hT : ∀ w ∈ wM_a, w.before ([.ref (u 0), .int x1, .int x2, .int x3] : List Value).toArray s = true := fun w h => hts w (List.mem_cons_of_mem _ h)
  have hown : s.vm.findClass RX13 = some m.cls := findClass_of_methodNamed B.named
  have hlocks := B.notSynchronized
  have hM : tw_M D vwCl mX_a q s.heap u z s.heap [] := ⟨hP, va_S.rf⟩
  have hl := lv_entry ([.ref (u 0), .int x1, .int x2, .int x3]) (n := 4) (Nat.le_of_ble_eq_true rfl)
  rw [lg_entry_eq]
  generalize (lg_sl ([.ref (u 0), .int x1, .int x2, .int x3]) ++ List.replicate (4 - (lg_sl ([.ref (u 0), .int x1, .int x2, .int x3])).length) Slot.unset).toArray = ls at hl ⊢
  have hl : lv_has ls 4 [(0, .ref (u 0)), (1, .int x1), (2, .int x2), (3, .int x3)] := hl
  refine ow_named (fun QQ hQQ => ?_)
  generalize ([.ref (u 0), .int x1, .int x2, .int x3] : List Value).toArray = args at hts hT hQQ ⊢
  have hq : qm_X13_image_0_a K x1 x2 x3 z = some (r, z1) := hq
  unfold qm_X13_image_0_a at hq
  suffices key : ∀ (H : Heap) (locs : List Loc), tw_M D vwCl mX_a q s.heap u z H locs → W p l e ({ frames := 0, cells := 0, slots := 0, locals := 0 } : Room) s m args below meth c H locs 0 0 QQ (F0 m 0 ls []) from key s.heap [] hM
  intro H locs hM
  refine lv_aload_n hx hb dmX13_image_0_a rfl (lv_at hl 0 rfl) ?_
  refine mg13_268_a hx hb hT hown hK hM dmX13_image_1_a ?_
  refine lv_bipush (v := 96) hx hb dmX13_image_4_a (by decide) ?_
  refine lv_iload_n hx hb dmX13_image_6_a rfl (lv_at hl 1 rfl) ?_
  refine lv_imul hx hb dmX13_image_7_a ?_
  refine lv_iconst (v := 4) hx hb dmX13_image_8_a (by decide) ?_
  refine lv_iload_n hx hb dmX13_image_9_a rfl (lv_at hl 2 rfl) ?_
  refine lv_imul hx hb dmX13_image_10_a ?_
  refine lv_iadd hx hb dmX13_image_11_a ?_
  refine lv_iload_n hx hb dmX13_image_12_a rfl (lv_at hl 3 rfl) ?_
  refine lv_iadd hx hb dmX13_image_13_a ?_
  refine tw_iald mX_ok_a hx hb hK hM mr_74_a hq dmX13_image_14_a (fun v1 hq => ?_)
  exact mw_iret_a hx hb hr hlocks hM hq hQQ dmX13_image_15_a
theorem dmX13_turnRound_0_a : decode cX13_turnRound 0 = .ok (.bipush 120, 2) := dw_at cX13_turnRound_k0 (p := 0) rfl (by decide +kernel)
theorem dmX13_turnRound_2_a : decode cX13_turnRound 2 = .ok (.iload_n 1, 1) := dw_at cX13_turnRound_k0 (p := 2) rfl (by decide +kernel)
theorem dmX13_turnRound_3_a : decode cX13_turnRound 3 = .ok (.imul, 1) := dw_at cX13_turnRound_k0 (p := 3) rfl (by decide +kernel)
theorem dmX13_turnRound_4_a : decode cX13_turnRound 4 = .ok (.iload_n 2, 1) := dw_at cX13_turnRound_k0 (p := 4) rfl (by decide +kernel)
theorem dmX13_turnRound_5_a : decode cX13_turnRound 5 = .ok (.iadd, 1) := dw_at cX13_turnRound_k0 (p := 5) rfl (by decide +kernel)
theorem dmX13_turnRound_6_a : decode cX13_turnRound 6 = .ok (.istore 4, 2) := dw_at cX13_turnRound_k0 (p := 6) rfl (by decide +kernel)
theorem dmX13_turnRound_8_a : decode cX13_turnRound 8 = .ok (.iconst 0, 1) := dw_at cX13_turnRound_k0 (p := 8) rfl (by decide +kernel)
theorem dmX13_turnRound_9_a : decode cX13_turnRound 9 = .ok (.istore 5, 2) := dw_at cX13_turnRound_k0 (p := 9) rfl (by decide +kernel)
theorem dmX13_turnRound_11_a : decode cX13_turnRound 11 = .ok (.aload_n 0, 1) := dw_at cX13_turnRound_k0 (p := 11) rfl (by decide +kernel)
theorem dmX13_turnRound_12_a : decode cX13_turnRound 12 = .ok (.getfield 338, 3) := dw_at cX13_turnRound_k0 (p := 12) rfl (by decide +kernel)
theorem dmX13_turnRound_15_a : decode cX13_turnRound 15 = .ok (.iload 4, 2) := dw_at cX13_turnRound_k0 (p := 15) rfl (by decide +kernel)
theorem dmX13_turnRound_17_a : decode cX13_turnRound 17 = .ok (.iaload, 1) := dw_at cX13_turnRound_k0 (p := 17) rfl (by decide +kernel)
theorem dmX13_turnRound_18_a : decode cX13_turnRound 18 = .ok (.iconst 1, 1) := dw_at cX13_turnRound_k0 (p := 18) rfl (by decide +kernel)
theorem dmX13_turnRound_19_a : decode cX13_turnRound 19 = .ok (.isub, 1) := dw_at cX13_turnRound_k0 (p := 19) rfl (by decide +kernel)
theorem dmX13_turnRound_20_a : decode cX13_turnRound 20 = .ok (.istore 6, 2) := dw_at cX13_turnRound_k0 (p := 20) rfl (by decide +kernel)
theorem dmX13_turnRound_22_a : decode cX13_turnRound 22 = .ok (.iload 6, 2) := dw_at cX13_turnRound_k0 (p := 22) rfl (by decide +kernel)
theorem dmX13_turnRound_24_a : decode cX13_turnRound 24 = .ok (.ifCond .lt 34, 3) := dw_at cX13_turnRound_k1 (p := 0) rfl (by decide +kernel)
theorem dmX13_turnRound_27_a : decode cX13_turnRound 27 = .ok (.aload_n 0, 1) := dw_at cX13_turnRound_k1 (p := 3) rfl (by decide +kernel)
theorem dmX13_turnRound_28_a : decode cX13_turnRound 28 = .ok (.getfield 359, 3) := dw_at cX13_turnRound_k1 (p := 4) rfl (by decide +kernel)
theorem dmX13_turnRound_31_a : decode cX13_turnRound 31 = .ok (.iload 5, 2) := dw_at cX13_turnRound_k1 (p := 7) rfl (by decide +kernel)
theorem dmX13_turnRound_33_a : decode cX13_turnRound 33 = .ok (.iconst (-1), 1) := dw_at cX13_turnRound_k1 (p := 9) rfl (by decide +kernel)
theorem dmX13_turnRound_34_a : decode cX13_turnRound 34 = .ok (.aload_n 0, 1) := dw_at cX13_turnRound_k1 (p := 10) rfl (by decide +kernel)
theorem dmX13_turnRound_35_a : decode cX13_turnRound 35 = .ok (.getfield 335, 3) := dw_at cX13_turnRound_k1 (p := 11) rfl (by decide +kernel)
theorem dmX13_turnRound_38_a : decode cX13_turnRound 38 = .ok (.bipush 10, 2) := dw_at cX13_turnRound_k1 (p := 14) rfl (by decide +kernel)
theorem dmX13_turnRound_40_a : decode cX13_turnRound 40 = .ok (.iload 4, 2) := dw_at cX13_turnRound_k1 (p := 16) rfl (by decide +kernel)
theorem dmX13_turnRound_42_a : decode cX13_turnRound 42 = .ok (.imul, 1) := dw_at cX13_turnRound_k1 (p := 18) rfl (by decide +kernel)
theorem dmX13_turnRound_43_a : decode cX13_turnRound 43 = .ok (.iload 6, 2) := dw_at cX13_turnRound_k1 (p := 19) rfl (by decide +kernel)
theorem dmX13_turnRound_45_a : decode cX13_turnRound 45 = .ok (.iadd, 1) := dw_at cX13_turnRound_k1 (p := 21) rfl (by decide +kernel)
theorem dmX13_turnRound_46_a : decode cX13_turnRound 46 = .ok (.iaload, 1) := dw_at cX13_turnRound_k1 (p := 22) rfl (by decide +kernel)
theorem dmX13_turnRound_47_a : decode cX13_turnRound 47 = .ok (.isub, 1) := dw_at cX13_turnRound_k1 (p := 23) rfl (by decide +kernel)
theorem dmX13_turnRound_48_a : decode cX13_turnRound 48 = .ok (.iastore, 1) := dw_at cX13_turnRound_k2 (p := 0) rfl (by decide +kernel)
theorem dmX13_turnRound_49_a : decode cX13_turnRound 49 = .ok (.iinc 5 1, 3) := dw_at cX13_turnRound_k2 (p := 1) rfl (by decide +kernel)
theorem dmX13_turnRound_52_a : decode cX13_turnRound 52 = .ok (.iinc 6 (-1), 3) := dw_at cX13_turnRound_k2 (p := 4) rfl (by decide +kernel)
theorem dmX13_turnRound_55_a : decode cX13_turnRound 55 = .ok (.goto (-33), 3) := dw_at cX13_turnRound_k2 (p := 7) rfl (by decide +kernel)
theorem dmX13_turnRound_58_a : decode cX13_turnRound 58 = .ok (.aload_n 0, 1) := dw_at cX13_turnRound_k2 (p := 10) rfl (by decide +kernel)
theorem dmX13_turnRound_59_a : decode cX13_turnRound 59 = .ok (.getfield 359, 3) := dw_at cX13_turnRound_k2 (p := 11) rfl (by decide +kernel)
theorem dmX13_turnRound_62_a : decode cX13_turnRound 62 = .ok (.iload 5, 2) := dw_at cX13_turnRound_k2 (p := 14) rfl (by decide +kernel)
theorem dmX13_turnRound_64_a : decode cX13_turnRound 64 = .ok (.iconst 1, 1) := dw_at cX13_turnRound_k2 (p := 16) rfl (by decide +kernel)
theorem dmX13_turnRound_65_a : decode cX13_turnRound 65 = .ok (.iload_n 3, 1) := dw_at cX13_turnRound_k2 (p := 17) rfl (by decide +kernel)
theorem dmX13_turnRound_66_a : decode cX13_turnRound 66 = .ok (.iadd, 1) := dw_at cX13_turnRound_k2 (p := 18) rfl (by decide +kernel)
theorem dmX13_turnRound_67_a : decode cX13_turnRound 67 = .ok (.iastore, 1) := dw_at cX13_turnRound_k2 (p := 19) rfl (by decide +kernel)
theorem dmX13_turnRound_68_a : decode cX13_turnRound 68 = .ok (.iinc 5 1, 3) := dw_at cX13_turnRound_k2 (p := 20) rfl (by decide +kernel)
theorem dmX13_turnRound_71_a : decode cX13_turnRound 71 = .ok (.iconst 0, 1) := dw_at cX13_turnRound_k2 (p := 23) rfl (by decide +kernel)
theorem dmX13_turnRound_72_a : decode cX13_turnRound 72 = .ok (.istore 6, 2) := dw_at cX13_turnRound_k3 (p := 0) rfl (by decide +kernel)
theorem dmX13_turnRound_74_a : decode cX13_turnRound 74 = .ok (.iload 6, 2) := dw_at cX13_turnRound_k3 (p := 2) rfl (by decide +kernel)
theorem dmX13_turnRound_76_a : decode cX13_turnRound 76 = .ok (.iconst 1, 1) := dw_at cX13_turnRound_k3 (p := 4) rfl (by decide +kernel)
theorem dmX13_turnRound_77_a : decode cX13_turnRound 77 = .ok (.iadd, 1) := dw_at cX13_turnRound_k3 (p := 5) rfl (by decide +kernel)
theorem dmX13_turnRound_78_a : decode cX13_turnRound 78 = .ok (.iload 5, 2) := dw_at cX13_turnRound_k3 (p := 6) rfl (by decide +kernel)
theorem dmX13_turnRound_80_a : decode cX13_turnRound 80 = .ok (.if_icmp .ge 223, 3) := dw_at cX13_turnRound_k3 (p := 8) rfl (by decide +kernel)
theorem dmX13_turnRound_83_a : decode cX13_turnRound 83 = .ok (.aload_n 0, 1) := dw_at cX13_turnRound_k3 (p := 11) rfl (by decide +kernel)
theorem dmX13_turnRound_84_a : decode cX13_turnRound 84 = .ok (.getfield 359, 3) := dw_at cX13_turnRound_k3 (p := 12) rfl (by decide +kernel)
theorem dmX13_turnRound_87_a : decode cX13_turnRound 87 = .ok (.iload 6, 2) := dw_at cX13_turnRound_k3 (p := 15) rfl (by decide +kernel)
theorem dmX13_turnRound_89_a : decode cX13_turnRound 89 = .ok (.iaload, 1) := dw_at cX13_turnRound_k3 (p := 17) rfl (by decide +kernel)
theorem dmX13_turnRound_90_a : decode cX13_turnRound 90 = .ok (.ifCond .ge 207, 3) := dw_at cX13_turnRound_k3 (p := 18) rfl (by decide +kernel)
theorem dmX13_turnRound_93_a : decode cX13_turnRound 93 = .ok (.aload_n 0, 1) := dw_at cX13_turnRound_k3 (p := 21) rfl (by decide +kernel)
theorem dmX13_turnRound_94_a : decode cX13_turnRound 94 = .ok (.getfield 359, 3) := dw_at cX13_turnRound_k3 (p := 22) rfl (by decide +kernel)
theorem dmX13_turnRound_97_a : decode cX13_turnRound 97 = .ok (.iload 6, 2) := dw_at cX13_turnRound_k4 (p := 0) rfl (by decide +kernel)
theorem dmX13_turnRound_99_a : decode cX13_turnRound 99 = .ok (.iconst 1, 1) := dw_at cX13_turnRound_k4 (p := 2) rfl (by decide +kernel)
theorem dmX13_turnRound_100_a : decode cX13_turnRound 100 = .ok (.iadd, 1) := dw_at cX13_turnRound_k4 (p := 3) rfl (by decide +kernel)
theorem dmX13_turnRound_101_a : decode cX13_turnRound 101 = .ok (.iaload, 1) := dw_at cX13_turnRound_k4 (p := 4) rfl (by decide +kernel)
theorem dmX13_turnRound_102_a : decode cX13_turnRound 102 = .ok (.ifCond .le 195, 3) := dw_at cX13_turnRound_k4 (p := 5) rfl (by decide +kernel)
theorem dmX13_turnRound_105_a : decode cX13_turnRound 105 = .ok (.iconst 0, 1) := dw_at cX13_turnRound_k4 (p := 8) rfl (by decide +kernel)
theorem dmX13_turnRound_106_a : decode cX13_turnRound 106 = .ok (.aload_n 0, 1) := dw_at cX13_turnRound_k4 (p := 9) rfl (by decide +kernel)
theorem dmX13_turnRound_107_a : decode cX13_turnRound 107 = .ok (.getfield 359, 3) := dw_at cX13_turnRound_k4 (p := 10) rfl (by decide +kernel)
theorem dmX13_turnRound_110_a : decode cX13_turnRound 110 = .ok (.iload 6, 2) := dw_at cX13_turnRound_k4 (p := 13) rfl (by decide +kernel)
theorem dmX13_turnRound_112_a : decode cX13_turnRound 112 = .ok (.iaload, 1) := dw_at cX13_turnRound_k4 (p := 15) rfl (by decide +kernel)
theorem dmX13_turnRound_113_a : decode cX13_turnRound 113 = .ok (.isub, 1) := dw_at cX13_turnRound_k4 (p := 16) rfl (by decide +kernel)
theorem dmX13_turnRound_114_a : decode cX13_turnRound 114 = .ok (.istore 7, 2) := dw_at cX13_turnRound_k4 (p := 17) rfl (by decide +kernel)
theorem dmX13_turnRound_116_a : decode cX13_turnRound 116 = .ok (.aload_n 0, 1) := dw_at cX13_turnRound_k4 (p := 19) rfl (by decide +kernel)
theorem dmX13_turnRound_117_a : decode cX13_turnRound 117 = .ok (.getfield 359, 3) := dw_at cX13_turnRound_k4 (p := 20) rfl (by decide +kernel)
theorem dmX13_turnRound_120_a : decode cX13_turnRound 120 = .ok (.iload 6, 2) := dw_at cX13_turnRound_k4 (p := 23) rfl (by decide +kernel)
theorem dmX13_turnRound_122_a : decode cX13_turnRound 122 = .ok (.iconst 1, 1) := dw_at cX13_turnRound_k5 (p := 0) rfl (by decide +kernel)
theorem dmX13_turnRound_123_a : decode cX13_turnRound 123 = .ok (.iadd, 1) := dw_at cX13_turnRound_k5 (p := 1) rfl (by decide +kernel)
theorem dmX13_turnRound_124_a : decode cX13_turnRound 124 = .ok (.iaload, 1) := dw_at cX13_turnRound_k5 (p := 2) rfl (by decide +kernel)
theorem dmX13_turnRound_125_a : decode cX13_turnRound 125 = .ok (.istore 8, 2) := dw_at cX13_turnRound_k5 (p := 3) rfl (by decide +kernel)
theorem dmX13_turnRound_127_a : decode cX13_turnRound 127 = .ok (.iload 7, 2) := dw_at cX13_turnRound_k5 (p := 5) rfl (by decide +kernel)
theorem dmX13_turnRound_129_a : decode cX13_turnRound 129 = .ok (.iload 8, 2) := dw_at cX13_turnRound_k5 (p := 7) rfl (by decide +kernel)
theorem dmX13_turnRound_131_a : decode cX13_turnRound 131 = .ok (.isub, 1) := dw_at cX13_turnRound_k5 (p := 9) rfl (by decide +kernel)
theorem dmX13_turnRound_132_a : decode cX13_turnRound 132 = .ok (.invokestatic 734, 3) := dw_at cX13_turnRound_k5 (p := 10) rfl (by decide +kernel)
theorem dmX13_turnRound_135_a : decode cX13_turnRound 135 = .ok (.istore 9, 2) := dw_at cX13_turnRound_k5 (p := 13) rfl (by decide +kernel)
theorem dmX13_turnRound_137_a : decode cX13_turnRound 137 = .ok (.iload 9, 2) := dw_at cX13_turnRound_k5 (p := 15) rfl (by decide +kernel)
theorem dmX13_turnRound_139_a : decode cX13_turnRound 139 = .ok (.ifCond .ne 44, 3) := dw_at cX13_turnRound_k5 (p := 17) rfl (by decide +kernel)
theorem dmX13_turnRound_142_a : decode cX13_turnRound 142 = .ok (.iload 6, 2) := dw_at cX13_turnRound_k5 (p := 20) rfl (by decide +kernel)
theorem dmX13_turnRound_144_a : decode cX13_turnRound 144 = .ok (.istore 10, 2) := dw_at cX13_turnRound_k5 (p := 22) rfl (by decide +kernel)
theorem dmX13_turnRound_146_a : decode cX13_turnRound 146 = .ok (.iload 10, 2) := dw_at cX13_turnRound_k6 (p := 0) rfl (by decide +kernel)
theorem dmX13_turnRound_148_a : decode cX13_turnRound 148 = .ok (.iconst 2, 1) := dw_at cX13_turnRound_k6 (p := 2) rfl (by decide +kernel)
theorem dmX13_turnRound_149_a : decode cX13_turnRound 149 = .ok (.iadd, 1) := dw_at cX13_turnRound_k6 (p := 3) rfl (by decide +kernel)
theorem dmX13_turnRound_150_a : decode cX13_turnRound 150 = .ok (.iload 5, 2) := dw_at cX13_turnRound_k6 (p := 4) rfl (by decide +kernel)
theorem dmX13_turnRound_152_a : decode cX13_turnRound 152 = .ok (.if_icmp .ge 25, 3) := dw_at cX13_turnRound_k6 (p := 6) rfl (by decide +kernel)
theorem dmX13_turnRound_155_a : decode cX13_turnRound 155 = .ok (.aload_n 0, 1) := dw_at cX13_turnRound_k6 (p := 9) rfl (by decide +kernel)
theorem dmX13_turnRound_156_a : decode cX13_turnRound 156 = .ok (.getfield 359, 3) := dw_at cX13_turnRound_k6 (p := 10) rfl (by decide +kernel)
theorem dmX13_turnRound_159_a : decode cX13_turnRound 159 = .ok (.iload 10, 2) := dw_at cX13_turnRound_k6 (p := 13) rfl (by decide +kernel)
theorem dmX13_turnRound_161_a : decode cX13_turnRound 161 = .ok (.aload_n 0, 1) := dw_at cX13_turnRound_k6 (p := 15) rfl (by decide +kernel)
theorem dmX13_turnRound_162_a : decode cX13_turnRound 162 = .ok (.getfield 359, 3) := dw_at cX13_turnRound_k6 (p := 16) rfl (by decide +kernel)
theorem dmX13_turnRound_165_a : decode cX13_turnRound 165 = .ok (.iload 10, 2) := dw_at cX13_turnRound_k6 (p := 19) rfl (by decide +kernel)
theorem dmX13_turnRound_167_a : decode cX13_turnRound 167 = .ok (.iconst 2, 1) := dw_at cX13_turnRound_k6 (p := 21) rfl (by decide +kernel)
theorem dmX13_turnRound_168_a : decode cX13_turnRound 168 = .ok (.iadd, 1) := dw_at cX13_turnRound_k6 (p := 22) rfl (by decide +kernel)
theorem dmX13_turnRound_169_a : decode cX13_turnRound 169 = .ok (.iaload, 1) := dw_at cX13_turnRound_k6 (p := 23) rfl (by decide +kernel)
theorem dmX13_turnRound_170_a : decode cX13_turnRound 170 = .ok (.iastore, 1) := dw_at cX13_turnRound_k7 (p := 0) rfl (by decide +kernel)
theorem dmX13_turnRound_171_a : decode cX13_turnRound 171 = .ok (.iinc 10 1, 3) := dw_at cX13_turnRound_k7 (p := 1) rfl (by decide +kernel)
theorem dmX13_turnRound_174_a : decode cX13_turnRound 174 = .ok (.goto (-28), 3) := dw_at cX13_turnRound_k7 (p := 4) rfl (by decide +kernel)
theorem dmX13_turnRound_177_a : decode cX13_turnRound 177 = .ok (.iinc 5 (-2), 3) := dw_at cX13_turnRound_k7 (p := 7) rfl (by decide +kernel)
theorem dmX13_turnRound_180_a : decode cX13_turnRound 180 = .ok (.goto 111, 3) := dw_at cX13_turnRound_k7 (p := 10) rfl (by decide +kernel)
theorem dmX13_turnRound_183_a : decode cX13_turnRound 183 = .ok (.iload 9, 2) := dw_at cX13_turnRound_k7 (p := 13) rfl (by decide +kernel)
theorem dmX13_turnRound_185_a : decode cX13_turnRound 185 = .ok (.iconst 1, 1) := dw_at cX13_turnRound_k7 (p := 15) rfl (by decide +kernel)
theorem dmX13_turnRound_186_a : decode cX13_turnRound 186 = .ok (.if_icmp .ne 83, 3) := dw_at cX13_turnRound_k7 (p := 16) rfl (by decide +kernel)
theorem dmX13_turnRound_189_a : decode cX13_turnRound 189 = .ok (.iload 5, 2) := dw_at cX13_turnRound_k7 (p := 19) rfl (by decide +kernel)
theorem dmX13_turnRound_191_a : decode cX13_turnRound 191 = .ok (.iconst 1, 1) := dw_at cX13_turnRound_k7 (p := 21) rfl (by decide +kernel)
theorem dmX13_turnRound_192_a : decode cX13_turnRound 192 = .ok (.isub, 1) := dw_at cX13_turnRound_k7 (p := 22) rfl (by decide +kernel)
theorem dmX13_turnRound_193_a : decode cX13_turnRound 193 = .ok (.istore 10, 2) := dw_at cX13_turnRound_k7 (p := 23) rfl (by decide +kernel)
theorem dmX13_turnRound_195_a : decode cX13_turnRound 195 = .ok (.iload 10, 2) := dw_at cX13_turnRound_k8 (p := 0) rfl (by decide +kernel)
theorem dmX13_turnRound_197_a : decode cX13_turnRound 197 = .ok (.iload 6, 2) := dw_at cX13_turnRound_k8 (p := 2) rfl (by decide +kernel)
theorem dmX13_turnRound_199_a : decode cX13_turnRound 199 = .ok (.iconst 2, 1) := dw_at cX13_turnRound_k8 (p := 4) rfl (by decide +kernel)
theorem dmX13_turnRound_200_a : decode cX13_turnRound 200 = .ok (.iadd, 1) := dw_at cX13_turnRound_k8 (p := 5) rfl (by decide +kernel)
theorem dmX13_turnRound_201_a : decode cX13_turnRound 201 = .ok (.if_icmp .lt 25, 3) := dw_at cX13_turnRound_k8 (p := 6) rfl (by decide +kernel)
theorem dmX13_turnRound_204_a : decode cX13_turnRound 204 = .ok (.aload_n 0, 1) := dw_at cX13_turnRound_k8 (p := 9) rfl (by decide +kernel)
theorem dmX13_turnRound_205_a : decode cX13_turnRound 205 = .ok (.getfield 359, 3) := dw_at cX13_turnRound_k8 (p := 10) rfl (by decide +kernel)
theorem dmX13_turnRound_208_a : decode cX13_turnRound 208 = .ok (.iload 10, 2) := dw_at cX13_turnRound_k8 (p := 13) rfl (by decide +kernel)
theorem dmX13_turnRound_210_a : decode cX13_turnRound 210 = .ok (.iconst 2, 1) := dw_at cX13_turnRound_k8 (p := 15) rfl (by decide +kernel)
theorem dmX13_turnRound_211_a : decode cX13_turnRound 211 = .ok (.iadd, 1) := dw_at cX13_turnRound_k8 (p := 16) rfl (by decide +kernel)
theorem dmX13_turnRound_212_a : decode cX13_turnRound 212 = .ok (.aload_n 0, 1) := dw_at cX13_turnRound_k8 (p := 17) rfl (by decide +kernel)
theorem dmX13_turnRound_213_a : decode cX13_turnRound 213 = .ok (.getfield 359, 3) := dw_at cX13_turnRound_k8 (p := 18) rfl (by decide +kernel)
theorem dmX13_turnRound_216_a : decode cX13_turnRound 216 = .ok (.iload 10, 2) := dw_at cX13_turnRound_k8 (p := 21) rfl (by decide +kernel)
theorem dmX13_turnRound_218_a : decode cX13_turnRound 218 = .ok (.iaload, 1) := dw_at cX13_turnRound_k8 (p := 23) rfl (by decide +kernel)
theorem dmX13_turnRound_219_a : decode cX13_turnRound 219 = .ok (.iastore, 1) := dw_at cX13_turnRound_k9 (p := 0) rfl (by decide +kernel)
theorem dmX13_turnRound_220_a : decode cX13_turnRound 220 = .ok (.iinc 10 (-1), 3) := dw_at cX13_turnRound_k9 (p := 1) rfl (by decide +kernel)
theorem dmX13_turnRound_223_a : decode cX13_turnRound 223 = .ok (.goto (-28), 3) := dw_at cX13_turnRound_k9 (p := 4) rfl (by decide +kernel)
theorem dmX13_turnRound_226_a : decode cX13_turnRound 226 = .ok (.iinc 5 2, 3) := dw_at cX13_turnRound_k9 (p := 7) rfl (by decide +kernel)
theorem dmX13_turnRound_229_a : decode cX13_turnRound 229 = .ok (.aload_n 0, 1) := dw_at cX13_turnRound_k9 (p := 10) rfl (by decide +kernel)
theorem dmX13_turnRound_230_a : decode cX13_turnRound 230 = .ok (.getfield 359, 3) := dw_at cX13_turnRound_k9 (p := 11) rfl (by decide +kernel)
theorem dmX13_turnRound_233_a : decode cX13_turnRound 233 = .ok (.iload 6, 2) := dw_at cX13_turnRound_k9 (p := 14) rfl (by decide +kernel)
theorem dmX13_turnRound_235_a : decode cX13_turnRound 235 = .ok (.iconst 1, 1) := dw_at cX13_turnRound_k9 (p := 16) rfl (by decide +kernel)
theorem dmX13_turnRound_236_a : decode cX13_turnRound 236 = .ok (.iadd, 1) := dw_at cX13_turnRound_k9 (p := 17) rfl (by decide +kernel)
theorem dmX13_turnRound_237_a : decode cX13_turnRound 237 = .ok (.iload 7, 2) := dw_at cX13_turnRound_k9 (p := 18) rfl (by decide +kernel)
theorem dmX13_turnRound_239_a : decode cX13_turnRound 239 = .ok (.iastore, 1) := dw_at cX13_turnRound_k9 (p := 20) rfl (by decide +kernel)
theorem dmX13_turnRound_240_a : decode cX13_turnRound 240 = .ok (.aload_n 0, 1) := dw_at cX13_turnRound_k9 (p := 21) rfl (by decide +kernel)
theorem dmX13_turnRound_241_a : decode cX13_turnRound 241 = .ok (.getfield 359, 3) := dw_at cX13_turnRound_k9 (p := 22) rfl (by decide +kernel)
theorem dmX13_turnRound_244_a : decode cX13_turnRound 244 = .ok (.iload 6, 2) := dw_at cX13_turnRound_k10 (p := 0) rfl (by decide +kernel)
theorem dmX13_turnRound_246_a : decode cX13_turnRound 246 = .ok (.iconst 2, 1) := dw_at cX13_turnRound_k10 (p := 2) rfl (by decide +kernel)
theorem dmX13_turnRound_247_a : decode cX13_turnRound 247 = .ok (.iadd, 1) := dw_at cX13_turnRound_k10 (p := 3) rfl (by decide +kernel)
theorem dmX13_turnRound_248_a : decode cX13_turnRound 248 = .ok (.iconst 0, 1) := dw_at cX13_turnRound_k10 (p := 4) rfl (by decide +kernel)
theorem dmX13_turnRound_249_a : decode cX13_turnRound 249 = .ok (.iload 8, 2) := dw_at cX13_turnRound_k10 (p := 5) rfl (by decide +kernel)
theorem dmX13_turnRound_251_a : decode cX13_turnRound 251 = .ok (.isub, 1) := dw_at cX13_turnRound_k10 (p := 7) rfl (by decide +kernel)
theorem dmX13_turnRound_252_a : decode cX13_turnRound 252 = .ok (.iastore, 1) := dw_at cX13_turnRound_k10 (p := 8) rfl (by decide +kernel)
theorem dmX13_turnRound_253_a : decode cX13_turnRound 253 = .ok (.aload_n 0, 1) := dw_at cX13_turnRound_k10 (p := 9) rfl (by decide +kernel)
theorem dmX13_turnRound_254_a : decode cX13_turnRound 254 = .ok (.getfield 359, 3) := dw_at cX13_turnRound_k10 (p := 10) rfl (by decide +kernel)
theorem dmX13_turnRound_257_a : decode cX13_turnRound 257 = .ok (.iload 6, 2) := dw_at cX13_turnRound_k10 (p := 13) rfl (by decide +kernel)
theorem dmX13_turnRound_259_a : decode cX13_turnRound 259 = .ok (.iconst 3, 1) := dw_at cX13_turnRound_k10 (p := 15) rfl (by decide +kernel)
theorem dmX13_turnRound_260_a : decode cX13_turnRound 260 = .ok (.iadd, 1) := dw_at cX13_turnRound_k10 (p := 16) rfl (by decide +kernel)
theorem dmX13_turnRound_261_a : decode cX13_turnRound 261 = .ok (.iconst 0, 1) := dw_at cX13_turnRound_k10 (p := 17) rfl (by decide +kernel)
theorem dmX13_turnRound_262_a : decode cX13_turnRound 262 = .ok (.iload 7, 2) := dw_at cX13_turnRound_k10 (p := 18) rfl (by decide +kernel)
theorem dmX13_turnRound_264_a : decode cX13_turnRound 264 = .ok (.isub, 1) := dw_at cX13_turnRound_k10 (p := 20) rfl (by decide +kernel)
theorem dmX13_turnRound_265_a : decode cX13_turnRound 265 = .ok (.iastore, 1) := dw_at cX13_turnRound_k10 (p := 21) rfl (by decide +kernel)
theorem dmX13_turnRound_266_a : decode cX13_turnRound 266 = .ok (.goto 16, 3) := dw_at cX13_turnRound_k10 (p := 22) rfl (by decide +kernel)
theorem dmX13_turnRound_269_a : decode cX13_turnRound 269 = .ok (.aload_n 0, 1) := dw_at cX13_turnRound_k11 (p := 0) rfl (by decide +kernel)
theorem dmX13_turnRound_270_a : decode cX13_turnRound 270 = .ok (.getfield 359, 3) := dw_at cX13_turnRound_k11 (p := 1) rfl (by decide +kernel)
theorem dmX13_turnRound_273_a : decode cX13_turnRound 273 = .ok (.iload 6, 2) := dw_at cX13_turnRound_k11 (p := 4) rfl (by decide +kernel)
theorem dmX13_turnRound_275_a : decode cX13_turnRound 275 = .ok (.iconst 1, 1) := dw_at cX13_turnRound_k11 (p := 6) rfl (by decide +kernel)
theorem dmX13_turnRound_276_a : decode cX13_turnRound 276 = .ok (.iadd, 1) := dw_at cX13_turnRound_k11 (p := 7) rfl (by decide +kernel)
theorem dmX13_turnRound_277_a : decode cX13_turnRound 277 = .ok (.iconst 0, 1) := dw_at cX13_turnRound_k11 (p := 8) rfl (by decide +kernel)
theorem dmX13_turnRound_278_a : decode cX13_turnRound 278 = .ok (.iload 7, 2) := dw_at cX13_turnRound_k11 (p := 9) rfl (by decide +kernel)
theorem dmX13_turnRound_280_a : decode cX13_turnRound 280 = .ok (.isub, 1) := dw_at cX13_turnRound_k11 (p := 11) rfl (by decide +kernel)
theorem dmX13_turnRound_281_a : decode cX13_turnRound 281 = .ok (.iastore, 1) := dw_at cX13_turnRound_k11 (p := 12) rfl (by decide +kernel)
theorem dmX13_turnRound_282_a : decode cX13_turnRound 282 = .ok (.aload_n 0, 1) := dw_at cX13_turnRound_k11 (p := 13) rfl (by decide +kernel)
theorem dmX13_turnRound_283_a : decode cX13_turnRound 283 = .ok (.getfield 359, 3) := dw_at cX13_turnRound_k11 (p := 14) rfl (by decide +kernel)
theorem dmX13_turnRound_286_a : decode cX13_turnRound 286 = .ok (.iload 6, 2) := dw_at cX13_turnRound_k11 (p := 17) rfl (by decide +kernel)
theorem dmX13_turnRound_288_a : decode cX13_turnRound 288 = .ok (.iload 8, 2) := dw_at cX13_turnRound_k11 (p := 19) rfl (by decide +kernel)
theorem dmX13_turnRound_290_a : decode cX13_turnRound 290 = .ok (.iastore, 1) := dw_at cX13_turnRound_k11 (p := 21) rfl (by decide +kernel)
theorem dmX13_turnRound_291_a : decode cX13_turnRound 291 = .ok (.iconst 0, 1) := dw_at cX13_turnRound_k11 (p := 22) rfl (by decide +kernel)
theorem dmX13_turnRound_292_a : decode cX13_turnRound 292 = .ok (.istore 6, 2) := dw_at cX13_turnRound_k11 (p := 23) rfl (by decide +kernel)
theorem dmX13_turnRound_294_a : decode cX13_turnRound 294 = .ok (.goto (-220), 3) := dw_at cX13_turnRound_k12 (p := 0) rfl (by decide +kernel)
theorem dmX13_turnRound_297_a : decode cX13_turnRound 297 = .ok (.iinc 6 1, 3) := dw_at cX13_turnRound_k12 (p := 3) rfl (by decide +kernel)
theorem dmX13_turnRound_300_a : decode cX13_turnRound 300 = .ok (.goto (-226), 3) := dw_at cX13_turnRound_k12 (p := 6) rfl (by decide +kernel)
theorem dmX13_turnRound_303_a : decode cX13_turnRound 303 = .ok (.iconst 0, 1) := dw_at cX13_turnRound_k12 (p := 9) rfl (by decide +kernel)
theorem dmX13_turnRound_304_a : decode cX13_turnRound 304 = .ok (.istore 7, 2) := dw_at cX13_turnRound_k12 (p := 10) rfl (by decide +kernel)
theorem dmX13_turnRound_306_a : decode cX13_turnRound 306 = .ok (.iconst 0, 1) := dw_at cX13_turnRound_k12 (p := 12) rfl (by decide +kernel)
theorem dmX13_turnRound_307_a : decode cX13_turnRound 307 = .ok (.istore 8, 2) := dw_at cX13_turnRound_k12 (p := 13) rfl (by decide +kernel)
theorem dmX13_turnRound_309_a : decode cX13_turnRound 309 = .ok (.iload 8, 2) := dw_at cX13_turnRound_k12 (p := 15) rfl (by decide +kernel)
theorem dmX13_turnRound_311_a : decode cX13_turnRound 311 = .ok (.iload 5, 2) := dw_at cX13_turnRound_k12 (p := 17) rfl (by decide +kernel)
theorem dmX13_turnRound_313_a : decode cX13_turnRound 313 = .ok (.if_icmp .ge 45, 3) := dw_at cX13_turnRound_k12 (p := 19) rfl (by decide +kernel)
theorem dmX13_turnRound_316_a : decode cX13_turnRound 316 = .ok (.aload_n 0, 1) := dw_at cX13_turnRound_k12 (p := 22) rfl (by decide +kernel)
theorem dmX13_turnRound_317_a : decode cX13_turnRound 317 = .ok (.getfield 359, 3) := dw_at cX13_turnRound_k12 (p := 23) rfl (by decide +kernel)
theorem dmX13_turnRound_320_a : decode cX13_turnRound 320 = .ok (.iload 8, 2) := dw_at cX13_turnRound_k13 (p := 0) rfl (by decide +kernel)
theorem dmX13_turnRound_322_a : decode cX13_turnRound 322 = .ok (.iaload, 1) := dw_at cX13_turnRound_k13 (p := 2) rfl (by decide +kernel)
theorem dmX13_turnRound_323_a : decode cX13_turnRound 323 = .ok (.ifCond .le 35, 3) := dw_at cX13_turnRound_k13 (p := 3) rfl (by decide +kernel)
theorem dmX13_turnRound_326_a : decode cX13_turnRound 326 = .ok (.aload_n 0, 1) := dw_at cX13_turnRound_k13 (p := 6) rfl (by decide +kernel)
theorem dmX13_turnRound_327_a : decode cX13_turnRound 327 = .ok (.getfield 341, 3) := dw_at cX13_turnRound_k13 (p := 7) rfl (by decide +kernel)
theorem dmX13_turnRound_330_a : decode cX13_turnRound 330 = .ok (.iconst 4, 1) := dw_at cX13_turnRound_k13 (p := 10) rfl (by decide +kernel)
theorem dmX13_turnRound_331_a : decode cX13_turnRound 331 = .ok (.bipush 120, 2) := dw_at cX13_turnRound_k13 (p := 11) rfl (by decide +kernel)
theorem dmX13_turnRound_333_a : decode cX13_turnRound 333 = .ok (.iload_n 1, 1) := dw_at cX13_turnRound_k13 (p := 13) rfl (by decide +kernel)
theorem dmX13_turnRound_334_a : decode cX13_turnRound 334 = .ok (.imul, 1) := dw_at cX13_turnRound_k13 (p := 14) rfl (by decide +kernel)
theorem dmX13_turnRound_335_a : decode cX13_turnRound 335 = .ok (.iload 7, 2) := dw_at cX13_turnRound_k13 (p := 15) rfl (by decide +kernel)
theorem dmX13_turnRound_337_a : decode cX13_turnRound 337 = .ok (.iadd, 1) := dw_at cX13_turnRound_k13 (p := 17) rfl (by decide +kernel)
theorem dmX13_turnRound_338_a : decode cX13_turnRound 338 = .ok (.imul, 1) := dw_at cX13_turnRound_k13 (p := 18) rfl (by decide +kernel)
theorem dmX13_turnRound_339_a : decode cX13_turnRound 339 = .ok (.aload_n 0, 1) := dw_at cX13_turnRound_k13 (p := 19) rfl (by decide +kernel)
theorem dmX13_turnRound_340_a : decode cX13_turnRound 340 = .ok (.getfield 359, 3) := dw_at cX13_turnRound_k13 (p := 20) rfl (by decide +kernel)
theorem dmX13_turnRound_343_a : decode cX13_turnRound 343 = .ok (.iload 8, 2) := dw_at cX13_turnRound_k13 (p := 23) rfl (by decide +kernel)
theorem dmX13_turnRound_345_a : decode cX13_turnRound 345 = .ok (.iaload, 1) := dw_at cX13_turnRound_k14 (p := 0) rfl (by decide +kernel)
theorem dmX13_turnRound_346_a : decode cX13_turnRound 346 = .ok (.iadd, 1) := dw_at cX13_turnRound_k14 (p := 1) rfl (by decide +kernel)
theorem dmX13_turnRound_347_a : decode cX13_turnRound 347 = .ok (.iconst 1, 1) := dw_at cX13_turnRound_k14 (p := 2) rfl (by decide +kernel)
theorem dmX13_turnRound_348_a : decode cX13_turnRound 348 = .ok (.isub, 1) := dw_at cX13_turnRound_k14 (p := 3) rfl (by decide +kernel)
theorem dmX13_turnRound_349_a : decode cX13_turnRound 349 = .ok (.iaload, 1) := dw_at cX13_turnRound_k14 (p := 4) rfl (by decide +kernel)
theorem dmX13_turnRound_350_a : decode cX13_turnRound 350 = .ok (.istore 7, 2) := dw_at cX13_turnRound_k14 (p := 5) rfl (by decide +kernel)
theorem dmX13_turnRound_352_a : decode cX13_turnRound 352 = .ok (.iinc 8 1, 3) := dw_at cX13_turnRound_k14 (p := 7) rfl (by decide +kernel)
theorem dmX13_turnRound_355_a : decode cX13_turnRound 355 = .ok (.goto (-46), 3) := dw_at cX13_turnRound_k14 (p := 10) rfl (by decide +kernel)
theorem dmX13_turnRound_358_a : decode cX13_turnRound 358 = .ok (.iconst 0, 1) := dw_at cX13_turnRound_k14 (p := 13) rfl (by decide +kernel)
theorem dmX13_turnRound_359_a : decode cX13_turnRound 359 = .ok (.istore 9, 2) := dw_at cX13_turnRound_k14 (p := 14) rfl (by decide +kernel)
theorem dmX13_turnRound_361_a : decode cX13_turnRound 361 = .ok (.iload 5, 2) := dw_at cX13_turnRound_k14 (p := 16) rfl (by decide +kernel)
theorem dmX13_turnRound_363_a : decode cX13_turnRound 363 = .ok (.iconst 1, 1) := dw_at cX13_turnRound_k14 (p := 18) rfl (by decide +kernel)
theorem dmX13_turnRound_364_a : decode cX13_turnRound 364 = .ok (.isub, 1) := dw_at cX13_turnRound_k14 (p := 19) rfl (by decide +kernel)
theorem dmX13_turnRound_365_a : decode cX13_turnRound 365 = .ok (.istore 10, 2) := dw_at cX13_turnRound_k14 (p := 20) rfl (by decide +kernel)
theorem dmX13_turnRound_367_a : decode cX13_turnRound 367 = .ok (.iload 10, 2) := dw_at cX13_turnRound_k14 (p := 22) rfl (by decide +kernel)
theorem dmX13_turnRound_369_a : decode cX13_turnRound 369 = .ok (.iload 8, 2) := dw_at cX13_turnRound_k15 (p := 0) rfl (by decide +kernel)
theorem dmX13_turnRound_371_a : decode cX13_turnRound 371 = .ok (.if_icmp .lt 35, 3) := dw_at cX13_turnRound_k15 (p := 2) rfl (by decide +kernel)
theorem dmX13_turnRound_374_a : decode cX13_turnRound 374 = .ok (.aload_n 0, 1) := dw_at cX13_turnRound_k15 (p := 5) rfl (by decide +kernel)
theorem dmX13_turnRound_375_a : decode cX13_turnRound 375 = .ok (.getfield 341, 3) := dw_at cX13_turnRound_k15 (p := 6) rfl (by decide +kernel)
theorem dmX13_turnRound_378_a : decode cX13_turnRound 378 = .ok (.iconst 4, 1) := dw_at cX13_turnRound_k15 (p := 9) rfl (by decide +kernel)
theorem dmX13_turnRound_379_a : decode cX13_turnRound 379 = .ok (.bipush 120, 2) := dw_at cX13_turnRound_k15 (p := 10) rfl (by decide +kernel)
theorem dmX13_turnRound_381_a : decode cX13_turnRound 381 = .ok (.iload_n 1, 1) := dw_at cX13_turnRound_k15 (p := 12) rfl (by decide +kernel)
theorem dmX13_turnRound_382_a : decode cX13_turnRound 382 = .ok (.imul, 1) := dw_at cX13_turnRound_k15 (p := 13) rfl (by decide +kernel)
theorem dmX13_turnRound_383_a : decode cX13_turnRound 383 = .ok (.iload 9, 2) := dw_at cX13_turnRound_k15 (p := 14) rfl (by decide +kernel)
theorem dmX13_turnRound_385_a : decode cX13_turnRound 385 = .ok (.iadd, 1) := dw_at cX13_turnRound_k15 (p := 16) rfl (by decide +kernel)
theorem dmX13_turnRound_386_a : decode cX13_turnRound 386 = .ok (.imul, 1) := dw_at cX13_turnRound_k15 (p := 17) rfl (by decide +kernel)
theorem dmX13_turnRound_387_a : decode cX13_turnRound 387 = .ok (.aload_n 0, 1) := dw_at cX13_turnRound_k15 (p := 18) rfl (by decide +kernel)
theorem dmX13_turnRound_388_a : decode cX13_turnRound 388 = .ok (.getfield 359, 3) := dw_at cX13_turnRound_k15 (p := 19) rfl (by decide +kernel)
theorem dmX13_turnRound_391_a : decode cX13_turnRound 391 = .ok (.iload 10, 2) := dw_at cX13_turnRound_k15 (p := 22) rfl (by decide +kernel)
theorem dmX13_turnRound_393_a : decode cX13_turnRound 393 = .ok (.iaload, 1) := dw_at cX13_turnRound_k16 (p := 0) rfl (by decide +kernel)
theorem dmX13_turnRound_394_a : decode cX13_turnRound 394 = .ok (.isub, 1) := dw_at cX13_turnRound_k16 (p := 1) rfl (by decide +kernel)
theorem dmX13_turnRound_395_a : decode cX13_turnRound 395 = .ok (.iconst 1, 1) := dw_at cX13_turnRound_k16 (p := 2) rfl (by decide +kernel)
theorem dmX13_turnRound_396_a : decode cX13_turnRound 396 = .ok (.isub, 1) := dw_at cX13_turnRound_k16 (p := 3) rfl (by decide +kernel)
theorem dmX13_turnRound_397_a : decode cX13_turnRound 397 = .ok (.iaload, 1) := dw_at cX13_turnRound_k16 (p := 4) rfl (by decide +kernel)
theorem dmX13_turnRound_398_a : decode cX13_turnRound 398 = .ok (.istore 9, 2) := dw_at cX13_turnRound_k16 (p := 5) rfl (by decide +kernel)
theorem dmX13_turnRound_400_a : decode cX13_turnRound 400 = .ok (.iinc 10 (-1), 3) := dw_at cX13_turnRound_k16 (p := 7) rfl (by decide +kernel)
theorem dmX13_turnRound_403_a : decode cX13_turnRound 403 = .ok (.goto (-36), 3) := dw_at cX13_turnRound_k16 (p := 10) rfl (by decide +kernel)
theorem dmX13_turnRound_406_a : decode cX13_turnRound 406 = .ok (.aload_n 0, 1) := dw_at cX13_turnRound_k16 (p := 13) rfl (by decide +kernel)
theorem dmX13_turnRound_407_a : decode cX13_turnRound 407 = .ok (.getfield 350, 3) := dw_at cX13_turnRound_k16 (p := 14) rfl (by decide +kernel)
theorem dmX13_turnRound_410_a : decode cX13_turnRound 410 = .ok (.iconst 4, 1) := dw_at cX13_turnRound_k16 (p := 17) rfl (by decide +kernel)
theorem dmX13_turnRound_411_a : decode cX13_turnRound 411 = .ok (.iload 4, 2) := dw_at cX13_turnRound_k16 (p := 18) rfl (by decide +kernel)
theorem dmX13_turnRound_413_a : decode cX13_turnRound 413 = .ok (.imul, 1) := dw_at cX13_turnRound_k16 (p := 20) rfl (by decide +kernel)
theorem dmX13_turnRound_414_a : decode cX13_turnRound 414 = .ok (.iload_n 3, 1) := dw_at cX13_turnRound_k16 (p := 21) rfl (by decide +kernel)
theorem dmX13_turnRound_415_a : decode cX13_turnRound 415 = .ok (.iadd, 1) := dw_at cX13_turnRound_k16 (p := 22) rfl (by decide +kernel)
theorem dmX13_turnRound_416_a : decode cX13_turnRound 416 = .ok (.iload 7, 2) := dw_at cX13_turnRound_k16 (p := 23) rfl (by decide +kernel)
theorem dmX13_turnRound_418_a : decode cX13_turnRound 418 = .ok (.iastore, 1) := dw_at cX13_turnRound_k17 (p := 0) rfl (by decide +kernel)
theorem dmX13_turnRound_419_a : decode cX13_turnRound 419 = .ok (.aload_n 0, 1) := dw_at cX13_turnRound_k17 (p := 1) rfl (by decide +kernel)
theorem dmX13_turnRound_420_a : decode cX13_turnRound 420 = .ok (.getfield 353, 3) := dw_at cX13_turnRound_k17 (p := 2) rfl (by decide +kernel)
theorem dmX13_turnRound_423_a : decode cX13_turnRound 423 = .ok (.iconst 4, 1) := dw_at cX13_turnRound_k17 (p := 5) rfl (by decide +kernel)
theorem dmX13_turnRound_424_a : decode cX13_turnRound 424 = .ok (.iload 4, 2) := dw_at cX13_turnRound_k17 (p := 6) rfl (by decide +kernel)
theorem dmX13_turnRound_426_a : decode cX13_turnRound 426 = .ok (.imul, 1) := dw_at cX13_turnRound_k17 (p := 8) rfl (by decide +kernel)
theorem dmX13_turnRound_427_a : decode cX13_turnRound 427 = .ok (.iload_n 3, 1) := dw_at cX13_turnRound_k17 (p := 9) rfl (by decide +kernel)
theorem dmX13_turnRound_428_a : decode cX13_turnRound 428 = .ok (.iadd, 1) := dw_at cX13_turnRound_k17 (p := 10) rfl (by decide +kernel)
theorem dmX13_turnRound_429_a : decode cX13_turnRound 429 = .ok (.iload 9, 2) := dw_at cX13_turnRound_k17 (p := 11) rfl (by decide +kernel)
theorem dmX13_turnRound_431_a : decode cX13_turnRound 431 = .ok (.iastore, 1) := dw_at cX13_turnRound_k17 (p := 13) rfl (by decide +kernel)
theorem dmX13_turnRound_432_a : decode cX13_turnRound 432 = .ok (.return_, 1) := dw_at cX13_turnRound_k17 (p := 14) rfl (by decide +kernel)
def qm_X13_turnRound_0_a (K : Nat) (go : Nat → Int32 → Int32 → Int32 → Int32 → Int32 → Int32 → Int32 → Int32 → Int32 → Int32 → ow_MS → Option ow_MS) (x1 : Int32) (x2 : Int32) (x3 : Int32) (x4 : Int32) (x5 : Int32) (x6 : Int32) (x7 : Int32) (x8 : Int32) (x9 : Int32) (x10 : Int32) (z : ow_MS) : Option ow_MS :=
 rdI mX_a z 100 ((120 * x1) + x2) fun v1 => go 1 x1 x2 x3 ((120 * x1) + x2) 0 (v1 - 1) 0 0 0 0 z
def qm_X13_turnRound_1_a (K : Nat) (go : Nat → Int32 → Int32 → Int32 → Int32 → Int32 → Int32 → Int32 → Int32 → Int32 → Int32 → ow_MS → Option ow_MS) (x1 : Int32) (x2 : Int32) (x3 : Int32) (x4 : Int32) (x5 : Int32) (x6 : Int32) (x7 : Int32) (x8 : Int32) (x9 : Int32) (x10 : Int32) (z : ow_MS) : Option ow_MS :=
 (if x6 < 0 then wrI mX_a z 107 x5 (1 + x3) fun z2 => go 2 x1 x2 x3 x4 (x5 + 1) 0 0 0 0 0 z2
 else rdI mX_a z 99 ((10 * x4) + x6) fun v3 => wrI mX_a z 107 x5 ((-1) - v3) fun z4 => go 1 x1 x2 x3 x4 (x5 + 1) (x6 + (-1)) 0 0 0 0 z4)
def qm_X13_turnRound_2_a (K : Nat) (go : Nat → Int32 → Int32 → Int32 → Int32 → Int32 → Int32 → Int32 → Int32 → Int32 → Int32 → ow_MS → Option ow_MS) (x1 : Int32) (x2 : Int32) (x3 : Int32) (x4 : Int32) (x5 : Int32) (x6 : Int32) (x7 : Int32) (x8 : Int32) (x9 : Int32) (x10 : Int32) (z : ow_MS) : Option ow_MS :=
 (if x5 ≤ (x6 + 1) then go 8 x1 x2 x3 x4 x5 x6 0 0 0 0 z
 else rdI mX_a z 107 x6 fun v5 => (if 0 ≤ v5 then go 7 x1 x2 x3 x4 x5 x6 0 0 0 0 z
 else rdI mX_a z 107 (x6 + 1) fun v6 => (if v6 ≤ 0 then go 7 x1 x2 x3 x4 x5 x6 0 0 0 0 z
 else rdI mX_a z 107 x6 fun v7 => rdI mX_a z 107 (x6 + 1) fun v8 => (if (if 0 ≤ ((0 - v7) - v8) then ((0 - v7) - v8) else 0 - ((0 - v7) - v8)) = 0 then go 3 x1 x2 x3 x4 x5 x6 (0 - v7) v8 (if 0 ≤ ((0 - v7) - v8) then ((0 - v7) - v8) else 0 - ((0 - v7) - v8)) x6 z
 else (if (if 0 ≤ ((0 - v7) - v8) then ((0 - v7) - v8) else 0 - ((0 - v7) - v8)) = 1 then go 4 x1 x2 x3 x4 x5 x6 (0 - v7) v8 (if 0 ≤ ((0 - v7) - v8) then ((0 - v7) - v8) else 0 - ((0 - v7) - v8)) (x5 - 1) z
 else wrI mX_a z 107 (x6 + 1) (0 - (0 - v7)) fun z9 => go 5 x1 x2 x3 x4 x5 x6 (0 - v7) v8 (if 0 ≤ ((0 - v7) - v8) then ((0 - v7) - v8) else 0 - ((0 - v7) - v8)) 0 z9)))))
def qm_X13_turnRound_3_a (K : Nat) (go : Nat → Int32 → Int32 → Int32 → Int32 → Int32 → Int32 → Int32 → Int32 → Int32 → Int32 → ow_MS → Option ow_MS) (x1 : Int32) (x2 : Int32) (x3 : Int32) (x4 : Int32) (x5 : Int32) (x6 : Int32) (x7 : Int32) (x8 : Int32) (x9 : Int32) (x10 : Int32) (z : ow_MS) : Option ow_MS :=
 (if x5 ≤ (x10 + 2) then go 6 x1 x2 x3 x4 (x5 + (-2)) x6 x7 x8 x9 0 z
 else rdI mX_a z 107 (x10 + 2) fun v10 => wrI mX_a z 107 x10 v10 fun z11 => go 3 x1 x2 x3 x4 x5 x6 x7 x8 x9 (x10 + 1) z11)
def qm_X13_turnRound_4_a (K : Nat) (go : Nat → Int32 → Int32 → Int32 → Int32 → Int32 → Int32 → Int32 → Int32 → Int32 → Int32 → ow_MS → Option ow_MS) (x1 : Int32) (x2 : Int32) (x3 : Int32) (x4 : Int32) (x5 : Int32) (x6 : Int32) (x7 : Int32) (x8 : Int32) (x9 : Int32) (x10 : Int32) (z : ow_MS) : Option ow_MS :=
 (if x10 < (x6 + 2) then wrI mX_a z 107 (x6 + 1) x7 fun z12 => wrI mX_a z12 107 (x6 + 2) (0 - x8) fun z13 => wrI mX_a z13 107 (x6 + 3) (0 - x7) fun z14 => go 5 x1 x2 x3 x4 (x5 + 2) x6 x7 x8 x9 0 z14
 else rdI mX_a z 107 x10 fun v15 => wrI mX_a z 107 (x10 + 2) v15 fun z16 => go 4 x1 x2 x3 x4 x5 x6 x7 x8 x9 (x10 + (-1)) z16)
def qm_X13_turnRound_5_a (K : Nat) (go : Nat → Int32 → Int32 → Int32 → Int32 → Int32 → Int32 → Int32 → Int32 → Int32 → Int32 → ow_MS → Option ow_MS) (x1 : Int32) (x2 : Int32) (x3 : Int32) (x4 : Int32) (x5 : Int32) (x6 : Int32) (x7 : Int32) (x8 : Int32) (x9 : Int32) (x10 : Int32) (z : ow_MS) : Option ow_MS :=
 wrI mX_a z 107 x6 x8 fun z17 => go 6 x1 x2 x3 x4 x5 x6 x7 x8 x9 0 z17
def qm_X13_turnRound_6_a (K : Nat) (go : Nat → Int32 → Int32 → Int32 → Int32 → Int32 → Int32 → Int32 → Int32 → Int32 → Int32 → ow_MS → Option ow_MS) (x1 : Int32) (x2 : Int32) (x3 : Int32) (x4 : Int32) (x5 : Int32) (x6 : Int32) (x7 : Int32) (x8 : Int32) (x9 : Int32) (x10 : Int32) (z : ow_MS) : Option ow_MS :=
 go 2 x1 x2 x3 x4 x5 0 0 0 0 0 z
def qm_X13_turnRound_7_a (K : Nat) (go : Nat → Int32 → Int32 → Int32 → Int32 → Int32 → Int32 → Int32 → Int32 → Int32 → Int32 → ow_MS → Option ow_MS) (x1 : Int32) (x2 : Int32) (x3 : Int32) (x4 : Int32) (x5 : Int32) (x6 : Int32) (x7 : Int32) (x8 : Int32) (x9 : Int32) (x10 : Int32) (z : ow_MS) : Option ow_MS :=
 go 2 x1 x2 x3 x4 x5 (x6 + 1) 0 0 0 0 z
def qm_X13_turnRound_8_a (K : Nat) (go : Nat → Int32 → Int32 → Int32 → Int32 → Int32 → Int32 → Int32 → Int32 → Int32 → Int32 → ow_MS → Option ow_MS) (x1 : Int32) (x2 : Int32) (x3 : Int32) (x4 : Int32) (x5 : Int32) (x6 : Int32) (x7 : Int32) (x8 : Int32) (x9 : Int32) (x10 : Int32) (z : ow_MS) : Option ow_MS :=
 (if x5 ≤ x8 then go 9 x1 x2 x3 x4 x5 x6 x7 x8 0 0 z
 else rdI mX_a z 107 x8 fun v18 => (if v18 ≤ 0 then go 9 x1 x2 x3 x4 x5 x6 x7 x8 0 0 z
 else rdI mX_a z 107 x8 fun v19 => rdI mX_a z 101 (((4 * ((120 * x1) + x7)) + v19) - 1) fun v20 => go 8 x1 x2 x3 x4 x5 x6 v20 (x8 + 1) 0 0 z))
def qm_X13_turnRound_9_a (K : Nat) (go : Nat → Int32 → Int32 → Int32 → Int32 → Int32 → Int32 → Int32 → Int32 → Int32 → Int32 → ow_MS → Option ow_MS) (x1 : Int32) (x2 : Int32) (x3 : Int32) (x4 : Int32) (x5 : Int32) (x6 : Int32) (x7 : Int32) (x8 : Int32) (x9 : Int32) (x10 : Int32) (z : ow_MS) : Option ow_MS :=
 go 10 x1 x2 x3 x4 x5 x6 x7 x8 0 (x5 - 1) z
def qm_X13_turnRound_10_a (K : Nat) (go : Nat → Int32 → Int32 → Int32 → Int32 → Int32 → Int32 → Int32 → Int32 → Int32 → Int32 → ow_MS → Option ow_MS) (x1 : Int32) (x2 : Int32) (x3 : Int32) (x4 : Int32) (x5 : Int32) (x6 : Int32) (x7 : Int32) (x8 : Int32) (x9 : Int32) (x10 : Int32) (z : ow_MS) : Option ow_MS :=
 (if x10 < x8 then wrI mX_a z 104 ((4 * x4) + x3) x7 fun z21 => wrI mX_a z21 105 ((4 * x4) + x3) x9 fun z22 => some z22
 else rdI mX_a z 107 x10 fun v23 => rdI mX_a z 101 (((4 * ((120 * x1) + x9)) - v23) - 1) fun v24 => go 10 x1 x2 x3 x4 x5 x6 x7 x8 v24 (x10 + (-1)) z)
def qb_X13_turnRound_a (K : Nat) (go : Nat → Int32 → Int32 → Int32 → Int32 → Int32 → Int32 → Int32 → Int32 → Int32 → Int32 → ow_MS → Option ow_MS) (L : Nat) (x1 : Int32) (x2 : Int32) (x3 : Int32) (x4 : Int32) (x5 : Int32) (x6 : Int32) (x7 : Int32) (x8 : Int32) (x9 : Int32) (x10 : Int32) (z : ow_MS) : Option ow_MS := match L with
  | 0 => qm_X13_turnRound_0_a K go x1 x2 x3 x4 x5 x6 x7 x8 x9 x10 z
  | 1 => qm_X13_turnRound_1_a K go x1 x2 x3 x4 x5 x6 x7 x8 x9 x10 z
  | 2 => qm_X13_turnRound_2_a K go x1 x2 x3 x4 x5 x6 x7 x8 x9 x10 z
  | 3 => qm_X13_turnRound_3_a K go x1 x2 x3 x4 x5 x6 x7 x8 x9 x10 z
  | 4 => qm_X13_turnRound_4_a K go x1 x2 x3 x4 x5 x6 x7 x8 x9 x10 z
  | 5 => qm_X13_turnRound_5_a K go x1 x2 x3 x4 x5 x6 x7 x8 x9 x10 z
  | 6 => qm_X13_turnRound_6_a K go x1 x2 x3 x4 x5 x6 x7 x8 x9 x10 z
  | 7 => qm_X13_turnRound_7_a K go x1 x2 x3 x4 x5 x6 x7 x8 x9 x10 z
  | 8 => qm_X13_turnRound_8_a K go x1 x2 x3 x4 x5 x6 x7 x8 x9 x10 z
  | 9 => qm_X13_turnRound_9_a K go x1 x2 x3 x4 x5 x6 x7 x8 x9 x10 z
  | 10 => qm_X13_turnRound_10_a K go x1 x2 x3 x4 x5 x6 x7 x8 x9 x10 z
  | _ => none
def q_X13_turnRound_a (K : Nat) : Nat → Nat → Int32 → Int32 → Int32 → Int32 → Int32 → Int32 → Int32 → Int32 → Int32 → Int32 → ow_MS → Option ow_MS
  | 0 => fun _ _ _ _ _ _ _ _ _ _ _ _ => none
  | k + 1 => qb_X13_turnRound_a K (q_X13_turnRound_a K k)
def qe_X13_turnRound_a (K : Nat) (x1 : Int32) (x2 : Int32) (x3 : Int32) (z : ow_MS) : Option ow_MS := q_X13_turnRound_a K K 0 x1 x2 x3 0 0 0 0 0 0 0 z
abbrev wm_X13_turnRound_a : List Cond := .code yX13_turnRound cX13_turnRound 11 none :: wM_a
theorem cd_X13_turnRound_a : yX13_turnRound.cls = RX13 ∧ yX13_turnRound.cls ≠ "java/lang/invoke/MethodHandle" ∧ yX13_turnRound.cls ≠ "java/lang/invoke/VarHandle" ∧ (parseMethodDescriptor yX13_turnRound.desc).map (fun d => d.parameters.length) = some 3 := by decide +kernel
set_option maxHeartbeats 4000000 in
set_option maxRecDepth 100000 in
theorem km_X13_turnRound_a (l : Launch) (D : va_G) (q : ow_Q5) (u : Nat → Nat) (hU : tw_inj mX_a u) (K : Nat) (x1 : Int32) (x2 : Int32) (x3 : Int32)  (z z1 : ow_MS) (hq : qe_X13_turnRound_a K x1 x2 x3 z = some z1) : Met l yX13_turnRound wm_X13_turnRound_a ({ frames := 1, cells := 0, slots := 0, locals := 29 } : Room) (va_Pc [.ref (u 0), .int x1, .int x2, .int x3] (mw_pre_a D q u z)) (va_Qv (fun (_ : Unit) => True) (fun _ t => va_P D vwCl (tw mX_a q u z1) t.heap) (tw_A mX_a u)) 0 0 (tw_A mX_a u) := by
  refine Met.ofW (cc := cX13_turnRound) (maxL := 11) (ret := none) (by decide) rfl ?_
  intro p e s m args below meth c s₁ B hml hv
  obtain ⟨rfl, hP, hK, hN⟩ := hv
  have hx := B.exec
  have hb := B.bytes
  have hr := B.returns
  have hts := atoms_spec (ws := wm_X13_turnRound_a) B.pre
  have hT : ∀ w ∈ wM_a, w.before ([.ref (u 0), .int x1, .int x2, .int x3] : List Value).toArray s = true := fun w h => hts w (List.mem_cons_of_mem _ h)
  have hown : s.vm.findClass RX13 = some m.cls := findClass_of_methodNamed B.named
  have hlocks := B.notSynchronized
  have hM : tw_M D vwCl mX_a q s.heap u z s.heap [] := ⟨hP, va_S.rf⟩
  have hl := lv_entry ([.ref (u 0), .int x1, .int x2, .int x3]) (n := 11) (Nat.le_of_ble_eq_true rfl)
  rw [lg_entry_eq]
  generalize (lg_sl ([.ref (u 0), .int x1, .int x2, .int x3]) ++ List.replicate (11 - (lg_sl ([.ref (u 0), .int x1, .int x2, .int x3])).length) Slot.unset).toArray = ls at hl ⊢
  have hl : lv_has ls 11 [(0, .ref (u 0)), (1, .int x1), (2, .int x2), (3, .int x3)] := hl
  refine ow_named (fun QQ hQQ => ?_)
  generalize ([.ref (u 0), .int x1, .int x2, .int x3] : List Value).toArray = args at hts hT hQQ ⊢
  have key : ∀ k : Nat, (∀ (x1 : Int32) (x2 : Int32) (x3 : Int32) (x4 : Int32) (x5 : Int32) (x6 : Int32) (x7 : Int32) (x8 : Int32) (x9 : Int32) (x10 : Int32) (z : ow_MS) (H : Heap) (locs : List Loc) (ls : Array Slot), tw_M D vwCl mX_a q s.heap u z H locs → lv_has ls 11 [(0, .ref (u 0)), (1, .int x1), (2, .int x2), (3, .int x3)] → q_X13_turnRound_a K k 0 x1 x2 x3 x4 x5 x6 x7 x8 x9 x10 z = some z1 → W p l e ({ frames := 1, cells := 0, slots := 0, locals := 29 } : Room) s m args below meth c H locs 0 0 QQ (F0 m 0 ls [])) ∧ (∀ (x1 : Int32) (x2 : Int32) (x3 : Int32) (x4 : Int32) (x5 : Int32) (x6 : Int32) (x7 : Int32) (x8 : Int32) (x9 : Int32) (x10 : Int32) (z : ow_MS) (H : Heap) (locs : List Loc) (ls : Array Slot), tw_M D vwCl mX_a q s.heap u z H locs → lv_has ls 11 [(0, .ref (u 0)), (1, .int x1), (2, .int x2), (3, .int x3), (4, .int x4), (5, .int x5), (6, .int x6)] → q_X13_turnRound_a K k 1 x1 x2 x3 x4 x5 x6 x7 x8 x9 x10 z = some z1 → W p l e ({ frames := 1, cells := 0, slots := 0, locals := 29 } : Room) s m args below meth c H locs 0 0 QQ (F0 m 22 ls [])) ∧ (∀ (x1 : Int32) (x2 : Int32) (x3 : Int32) (x4 : Int32) (x5 : Int32) (x6 : Int32) (x7 : Int32) (x8 : Int32) (x9 : Int32) (x10 : Int32) (z : ow_MS) (H : Heap) (locs : List Loc) (ls : Array Slot), tw_M D vwCl mX_a q s.heap u z H locs → lv_has ls 11 [(0, .ref (u 0)), (1, .int x1), (2, .int x2), (3, .int x3), (4, .int x4), (5, .int x5), (6, .int x6)] → q_X13_turnRound_a K k 2 x1 x2 x3 x4 x5 x6 x7 x8 x9 x10 z = some z1 → W p l e ({ frames := 1, cells := 0, slots := 0, locals := 29 } : Room) s m args below meth c H locs 0 0 QQ (F0 m 74 ls [])) ∧ (∀ (x1 : Int32) (x2 : Int32) (x3 : Int32) (x4 : Int32) (x5 : Int32) (x6 : Int32) (x7 : Int32) (x8 : Int32) (x9 : Int32) (x10 : Int32) (z : ow_MS) (H : Heap) (locs : List Loc) (ls : Array Slot), tw_M D vwCl mX_a q s.heap u z H locs → lv_has ls 11 [(0, .ref (u 0)), (1, .int x1), (2, .int x2), (3, .int x3), (4, .int x4), (5, .int x5), (6, .int x6), (7, .int x7), (8, .int x8), (9, .int x9), (10, .int x10)] → q_X13_turnRound_a K k 3 x1 x2 x3 x4 x5 x6 x7 x8 x9 x10 z = some z1 → W p l e ({ frames := 1, cells := 0, slots := 0, locals := 29 } : Room) s m args below meth c H locs 0 0 QQ (F0 m 146 ls [])) ∧ (∀ (x1 : Int32) (x2 : Int32) (x3 : Int32) (x4 : Int32) (x5 : Int32) (x6 : Int32) (x7 : Int32) (x8 : Int32) (x9 : Int32) (x10 : Int32) (z : ow_MS) (H : Heap) (locs : List Loc) (ls : Array Slot), tw_M D vwCl mX_a q s.heap u z H locs → lv_has ls 11 [(0, .ref (u 0)), (1, .int x1), (2, .int x2), (3, .int x3), (4, .int x4), (5, .int x5), (6, .int x6), (7, .int x7), (8, .int x8), (9, .int x9), (10, .int x10)] → q_X13_turnRound_a K k 4 x1 x2 x3 x4 x5 x6 x7 x8 x9 x10 z = some z1 → W p l e ({ frames := 1, cells := 0, slots := 0, locals := 29 } : Room) s m args below meth c H locs 0 0 QQ (F0 m 195 ls [])) ∧ (∀ (x1 : Int32) (x2 : Int32) (x3 : Int32) (x4 : Int32) (x5 : Int32) (x6 : Int32) (x7 : Int32) (x8 : Int32) (x9 : Int32) (x10 : Int32) (z : ow_MS) (H : Heap) (locs : List Loc) (ls : Array Slot), tw_M D vwCl mX_a q s.heap u z H locs → lv_has ls 11 [(0, .ref (u 0)), (1, .int x1), (2, .int x2), (3, .int x3), (4, .int x4), (5, .int x5), (6, .int x6), (7, .int x7), (8, .int x8), (9, .int x9)] → q_X13_turnRound_a K k 5 x1 x2 x3 x4 x5 x6 x7 x8 x9 x10 z = some z1 → W p l e ({ frames := 1, cells := 0, slots := 0, locals := 29 } : Room) s m args below meth c H locs 0 0 QQ (F0 m 282 ls [])) ∧ (∀ (x1 : Int32) (x2 : Int32) (x3 : Int32) (x4 : Int32) (x5 : Int32) (x6 : Int32) (x7 : Int32) (x8 : Int32) (x9 : Int32) (x10 : Int32) (z : ow_MS) (H : Heap) (locs : List Loc) (ls : Array Slot), tw_M D vwCl mX_a q s.heap u z H locs → lv_has ls 11 [(0, .ref (u 0)), (1, .int x1), (2, .int x2), (3, .int x3), (4, .int x4), (5, .int x5), (6, .int x6), (7, .int x7), (8, .int x8), (9, .int x9)] → q_X13_turnRound_a K k 6 x1 x2 x3 x4 x5 x6 x7 x8 x9 x10 z = some z1 → W p l e ({ frames := 1, cells := 0, slots := 0, locals := 29 } : Room) s m args below meth c H locs 0 0 QQ (F0 m 291 ls [])) ∧ (∀ (x1 : Int32) (x2 : Int32) (x3 : Int32) (x4 : Int32) (x5 : Int32) (x6 : Int32) (x7 : Int32) (x8 : Int32) (x9 : Int32) (x10 : Int32) (z : ow_MS) (H : Heap) (locs : List Loc) (ls : Array Slot), tw_M D vwCl mX_a q s.heap u z H locs → lv_has ls 11 [(0, .ref (u 0)), (1, .int x1), (2, .int x2), (3, .int x3), (4, .int x4), (5, .int x5), (6, .int x6)] → q_X13_turnRound_a K k 7 x1 x2 x3 x4 x5 x6 x7 x8 x9 x10 z = some z1 → W p l e ({ frames := 1, cells := 0, slots := 0, locals := 29 } : Room) s m args below meth c H locs 0 0 QQ (F0 m 297 ls [])) ∧ (∀ (x1 : Int32) (x2 : Int32) (x3 : Int32) (x4 : Int32) (x5 : Int32) (x6 : Int32) (x7 : Int32) (x8 : Int32) (x9 : Int32) (x10 : Int32) (z : ow_MS) (H : Heap) (locs : List Loc) (ls : Array Slot), tw_M D vwCl mX_a q s.heap u z H locs → lv_has ls 11 [(0, .ref (u 0)), (1, .int x1), (2, .int x2), (3, .int x3), (4, .int x4), (5, .int x5), (6, .int x6), (7, .int x7), (8, .int x8)] → q_X13_turnRound_a K k 8 x1 x2 x3 x4 x5 x6 x7 x8 x9 x10 z = some z1 → W p l e ({ frames := 1, cells := 0, slots := 0, locals := 29 } : Room) s m args below meth c H locs 0 0 QQ (F0 m 309 ls [])) ∧ (∀ (x1 : Int32) (x2 : Int32) (x3 : Int32) (x4 : Int32) (x5 : Int32) (x6 : Int32) (x7 : Int32) (x8 : Int32) (x9 : Int32) (x10 : Int32) (z : ow_MS) (H : Heap) (locs : List Loc) (ls : Array Slot), tw_M D vwCl mX_a q s.heap u z H locs → lv_has ls 11 [(0, .ref (u 0)), (1, .int x1), (2, .int x2), (3, .int x3), (4, .int x4), (5, .int x5), (6, .int x6), (7, .int x7), (8, .int x8)] → q_X13_turnRound_a K k 9 x1 x2 x3 x4 x5 x6 x7 x8 x9 x10 z = some z1 → W p l e ({ frames := 1, cells := 0, slots := 0, locals := 29 } : Room) s m args below meth c H locs 0 0 QQ (F0 m 358 ls [])) ∧ (∀ (x1 : Int32) (x2 : Int32) (x3 : Int32) (x4 : Int32) (x5 : Int32) (x6 : Int32) (x7 : Int32) (x8 : Int32) (x9 : Int32) (x10 : Int32) (z : ow_MS) (H : Heap) (locs : List Loc) (ls : Array Slot), tw_M D vwCl mX_a q s.heap u z H locs → lv_has ls 11 [(0, .ref (u 0)), (1, .int x1), (2, .int x2), (3, .int x3), (4, .int x4), (5, .int x5), (6, .int x6), (7, .int x7), (8, .int x8), (9, .int x9), (10, .int x10)] → q_X13_turnRound_a K k 10 x1 x2 x3 x4 x5 x6 x7 x8 x9 x10 z = some z1 → W p l e ({ frames := 1, cells := 0, slots := 0, locals := 29 } : Room) s m args below meth c H locs 0 0 QQ (F0 m 367 ls [])) := by
    intro k
    induction k with
    | zero => exact ⟨fun _ _ _ _ _ _ _ _ _ _ _ _ _ _  _ _ hq => tw_no hq, fun _ _ _ _ _ _ _ _ _ _ _ _ _ _  _ _ hq => tw_no hq, fun _ _ _ _ _ _ _ _ _ _ _ _ _ _  _ _ hq => tw_no hq, fun _ _ _ _ _ _ _ _ _ _ _ _ _ _  _ _ hq => tw_no hq, fun _ _ _ _ _ _ _ _ _ _ _ _ _ _  _ _ hq => tw_no hq, fun _ _ _ _ _ _ _ _ _ _ _ _ _ _  _ _ hq => tw_no hq, fun _ _ _ _ _ _ _ _ _ _ _ _ _ _  _ _ hq => tw_no hq, fun _ _ _ _ _ _ _ _ _ _ _ _ _ _  _ _ hq => tw_no hq, fun _ _ _ _ _ _ _ _ _ _ _ _ _ _  _ _ hq => tw_no hq, fun _ _ _ _ _ _ _ _ _ _ _ _ _ _  _ _ hq => tw_no hq, fun _ _ _ _ _ _ _ _ _ _ _ _ _ _  _ _ hq => tw_no hq⟩
    | succ k ih =>
      obtain ⟨ih_0, ih_1, ih_2, ih_3, ih_4, ih_5, ih_6, ih_7, ih_8, ih_9, ih_10⟩ := ih
      refine ⟨?_, ?_, ?_, ?_, ?_, ?_, ?_, ?_, ?_, ?_, ?_⟩
      · intro x1 x2 x3 x4 x5 x6 x7 x8 x9 x10 z H locs ls  hM hl hq
        have hq : qm_X13_turnRound_0_a K (q_X13_turnRound_a K k) x1 x2 x3 x4 x5 x6 x7 x8 x9 x10 z = some z1 := hq
        unfold qm_X13_turnRound_0_a at hq
        refine lv_bipush (v := 120) hx hb dmX13_turnRound_0_a (by decide) ?_
        refine lv_iload_n hx hb dmX13_turnRound_2_a rfl (lv_at hl 1 rfl) ?_
        refine lv_imul hx hb dmX13_turnRound_3_a ?_
        refine lv_iload_n hx hb dmX13_turnRound_4_a rfl (lv_at hl 2 rfl) ?_
        refine lv_iadd hx hb dmX13_turnRound_5_a ?_
        refine lv_istore (lv' := [(4, .int ((120 * x1) + x2)), (0, .ref (u 0)), (1, .int x1), (2, .int x2), (3, .int x3)]) hx hb dmX13_turnRound_6_a hl (by decide) rfl (fun ls hl => ?_)
        refine lv_iconst (v := 0) hx hb dmX13_turnRound_8_a (by decide) ?_
        refine lv_istore (lv' := [(5, .int 0), (4, .int ((120 * x1) + x2)), (0, .ref (u 0)), (1, .int x1), (2, .int x2), (3, .int x3)]) hx hb dmX13_turnRound_9_a hl (by decide) rfl (fun ls hl => ?_)
        refine lv_aload_n hx hb dmX13_turnRound_11_a rfl (lv_at hl 2 rfl) ?_
        refine mg13_338_a hx hb hT hown hK hM dmX13_turnRound_12_a ?_
        refine lv_iload hx hb dmX13_turnRound_15_a (lv_at hl 1 rfl) ?_
        refine tw_iald mX_ok_a hx hb hK hM mr_100_a hq dmX13_turnRound_17_a (fun v1 hq => ?_)
        refine lv_iconst (v := 1) hx hb dmX13_turnRound_18_a (by decide) ?_
        refine lv_isub hx hb dmX13_turnRound_19_a ?_
        refine lv_istore (lv' := [(6, .int (v1 - 1)), (5, .int 0), (4, .int ((120 * x1) + x2)), (0, .ref (u 0)), (1, .int x1), (2, .int x2), (3, .int x3)]) hx hb dmX13_turnRound_20_a hl (by decide) rfl (fun ls hl => ?_)
        exact ih_1 x1 x2 x3 ((120 * x1) + x2) 0 (v1 - 1) 0 0 0 0 z H locs ls hM (lv_sub hl [3, 4, 5, 6, 2, 1, 0] rfl) hq
      · intro x1 x2 x3 x4 x5 x6 x7 x8 x9 x10 z H locs ls  hM hl hq
        have hq : qm_X13_turnRound_1_a K (q_X13_turnRound_a K k) x1 x2 x3 x4 x5 x6 x7 x8 x9 x10 z = some z1 := hq
        unfold qm_X13_turnRound_1_a at hq
        refine lv_iload hx hb dmX13_turnRound_22_a (lv_at hl 6 rfl) ?_
        refine lv_if_lt (tgt := 58) hx hb dmX13_turnRound_24_a (by decide) (fun hc => ?_) (fun hc => ?_)
        · have hq := tw_it hq hc
          refine lv_aload_n hx hb dmX13_turnRound_58_a rfl (lv_at hl 0 rfl) ?_
          refine mg13_359_a hx hb hT hown hK hM dmX13_turnRound_59_a ?_
          refine lv_iload hx hb dmX13_turnRound_62_a (lv_at hl 5 rfl) ?_
          refine lv_iconst (v := 1) hx hb dmX13_turnRound_64_a (by decide) ?_
          refine lv_iload_n hx hb dmX13_turnRound_65_a rfl (lv_at hl 3 rfl) ?_
          refine lv_iadd hx hb dmX13_turnRound_66_a ?_
          refine tw_iast mX_ok_a hU hx hb hK hM mr_107_a hq dmX13_turnRound_67_a (fun z2 H locs hM hq => ?_)
          refine lv_iinc (v := (x5 + 1)) (lv' := [(5, .int (x5 + 1)), (0, .ref (u 0)), (1, .int x1), (2, .int x2), (3, .int x3), (4, .int x4), (6, .int x6)]) hx hb dmX13_turnRound_68_a hl (k := 5) rfl rfl (by decide) rfl (fun ls hl => ?_)
          refine lv_iconst (v := 0) hx hb dmX13_turnRound_71_a (by decide) ?_
          refine lv_istore (lv' := [(6, .int 0), (5, .int (x5 + 1)), (0, .ref (u 0)), (1, .int x1), (2, .int x2), (3, .int x3), (4, .int x4)]) hx hb dmX13_turnRound_72_a hl (by decide) rfl (fun ls hl => ?_)
          exact ih_2 x1 x2 x3 x4 (x5 + 1) 0 0 0 0 0 z2 H locs ls hM (lv_sub hl [2, 3, 4, 5, 6, 1, 0] rfl) hq
        · have hq := tw_if hq hc
          refine lv_aload_n hx hb dmX13_turnRound_27_a rfl (lv_at hl 0 rfl) ?_
          refine mg13_359_a hx hb hT hown hK hM dmX13_turnRound_28_a ?_
          refine lv_iload hx hb dmX13_turnRound_31_a (lv_at hl 5 rfl) ?_
          refine lv_iconst (v := (-1)) hx hb dmX13_turnRound_33_a (by decide) ?_
          refine lv_aload_n hx hb dmX13_turnRound_34_a rfl (lv_at hl 0 rfl) ?_
          refine mg13_335_a hx hb hT hown hK hM dmX13_turnRound_35_a ?_
          refine lv_bipush (v := 10) hx hb dmX13_turnRound_38_a (by decide) ?_
          refine lv_iload hx hb dmX13_turnRound_40_a (lv_at hl 4 rfl) ?_
          refine lv_imul hx hb dmX13_turnRound_42_a ?_
          refine lv_iload hx hb dmX13_turnRound_43_a (lv_at hl 6 rfl) ?_
          refine lv_iadd hx hb dmX13_turnRound_45_a ?_
          refine tw_iald mX_ok_a hx hb hK hM mr_99_a hq dmX13_turnRound_46_a (fun v3 hq => ?_)
          refine lv_isub hx hb dmX13_turnRound_47_a ?_
          refine tw_iast mX_ok_a hU hx hb hK hM mr_107_a hq dmX13_turnRound_48_a (fun z4 H locs hM hq => ?_)
          refine lv_iinc (v := (x5 + 1)) (lv' := [(5, .int (x5 + 1)), (0, .ref (u 0)), (1, .int x1), (2, .int x2), (3, .int x3), (4, .int x4), (6, .int x6)]) hx hb dmX13_turnRound_49_a hl (k := 5) rfl rfl (by decide) rfl (fun ls hl => ?_)
          refine lv_iinc (v := (x6 + (-1))) (lv' := [(6, .int (x6 + (-1))), (5, .int (x5 + 1)), (0, .ref (u 0)), (1, .int x1), (2, .int x2), (3, .int x3), (4, .int x4)]) hx hb dmX13_turnRound_52_a hl (k := 6) rfl rfl (by decide) rfl (fun ls hl => ?_)
          refine lv_goto (tgt := 22) hx hb dmX13_turnRound_55_a (by decide) ?_
          exact ih_1 x1 x2 x3 x4 (x5 + 1) (x6 + (-1)) 0 0 0 0 z4 H locs ls hM (lv_sub hl [2, 3, 4, 5, 6, 1, 0] rfl) hq
      · intro x1 x2 x3 x4 x5 x6 x7 x8 x9 x10 z H locs ls  hM hl hq
        have hq : qm_X13_turnRound_2_a K (q_X13_turnRound_a K k) x1 x2 x3 x4 x5 x6 x7 x8 x9 x10 z = some z1 := hq
        unfold qm_X13_turnRound_2_a at hq
        refine lv_iload hx hb dmX13_turnRound_74_a (lv_at hl 6 rfl) ?_
        refine lv_iconst (v := 1) hx hb dmX13_turnRound_76_a (by decide) ?_
        refine lv_iadd hx hb dmX13_turnRound_77_a ?_
        refine lv_iload hx hb dmX13_turnRound_78_a (lv_at hl 5 rfl) ?_
        refine lv_icmp_ge (tgt := 303) hx hb dmX13_turnRound_80_a (by decide) (fun hc => ?_) (fun hc => ?_)
        · have hq := tw_it hq hc
          refine lv_iconst (v := 0) hx hb dmX13_turnRound_303_a (by decide) ?_
          refine lv_istore (lv' := [(7, .int 0), (0, .ref (u 0)), (1, .int x1), (2, .int x2), (3, .int x3), (4, .int x4), (5, .int x5), (6, .int x6)]) hx hb dmX13_turnRound_304_a hl (by decide) rfl (fun ls hl => ?_)
          refine lv_iconst (v := 0) hx hb dmX13_turnRound_306_a (by decide) ?_
          refine lv_istore (lv' := [(8, .int 0), (7, .int 0), (0, .ref (u 0)), (1, .int x1), (2, .int x2), (3, .int x3), (4, .int x4), (5, .int x5), (6, .int x6)]) hx hb dmX13_turnRound_307_a hl (by decide) rfl (fun ls hl => ?_)
          exact ih_8 x1 x2 x3 x4 x5 x6 0 0 0 0 z H locs ls hM (lv_sub hl [2, 3, 4, 5, 6, 7, 8, 1, 0] rfl) hq
        · have hq := tw_if hq hc
          refine lv_aload_n hx hb dmX13_turnRound_83_a rfl (lv_at hl 0 rfl) ?_
          refine mg13_359_a hx hb hT hown hK hM dmX13_turnRound_84_a ?_
          refine lv_iload hx hb dmX13_turnRound_87_a (lv_at hl 6 rfl) ?_
          refine tw_iald mX_ok_a hx hb hK hM mr_107_a hq dmX13_turnRound_89_a (fun v5 hq => ?_)
          refine lv_if_ge (tgt := 297) hx hb dmX13_turnRound_90_a (by decide) (fun hc => ?_) (fun hc => ?_)
          · have hq := tw_it hq hc
            exact ih_7 x1 x2 x3 x4 x5 x6 0 0 0 0 z H locs ls hM (lv_sub hl [0, 1, 2, 3, 4, 5, 6] rfl) hq
          · have hq := tw_if hq hc
            refine lv_aload_n hx hb dmX13_turnRound_93_a rfl (lv_at hl 0 rfl) ?_
            refine mg13_359_a hx hb hT hown hK hM dmX13_turnRound_94_a ?_
            refine lv_iload hx hb dmX13_turnRound_97_a (lv_at hl 6 rfl) ?_
            refine lv_iconst (v := 1) hx hb dmX13_turnRound_99_a (by decide) ?_
            refine lv_iadd hx hb dmX13_turnRound_100_a ?_
            refine tw_iald mX_ok_a hx hb hK hM mr_107_a hq dmX13_turnRound_101_a (fun v6 hq => ?_)
            refine lv_if_le (tgt := 297) hx hb dmX13_turnRound_102_a (by decide) (fun hc => ?_) (fun hc => ?_)
            · have hq := tw_it hq hc
              exact ih_7 x1 x2 x3 x4 x5 x6 0 0 0 0 z H locs ls hM (lv_sub hl [0, 1, 2, 3, 4, 5, 6] rfl) hq
            · have hq := tw_if hq hc
              refine lv_iconst (v := 0) hx hb dmX13_turnRound_105_a (by decide) ?_
              refine lv_aload_n hx hb dmX13_turnRound_106_a rfl (lv_at hl 0 rfl) ?_
              refine mg13_359_a hx hb hT hown hK hM dmX13_turnRound_107_a ?_
              refine lv_iload hx hb dmX13_turnRound_110_a (lv_at hl 6 rfl) ?_
              refine tw_iald mX_ok_a hx hb hK hM mr_107_a hq dmX13_turnRound_112_a (fun v7 hq => ?_)
              refine lv_isub hx hb dmX13_turnRound_113_a ?_
              refine lv_istore (lv' := [(7, .int (0 - v7)), (0, .ref (u 0)), (1, .int x1), (2, .int x2), (3, .int x3), (4, .int x4), (5, .int x5), (6, .int x6)]) hx hb dmX13_turnRound_114_a hl (by decide) rfl (fun ls hl => ?_)
              refine lv_aload_n hx hb dmX13_turnRound_116_a rfl (lv_at hl 1 rfl) ?_
              refine mg13_359_a hx hb hT hown hK hM dmX13_turnRound_117_a ?_
              refine lv_iload hx hb dmX13_turnRound_120_a (lv_at hl 7 rfl) ?_
              refine lv_iconst (v := 1) hx hb dmX13_turnRound_122_a (by decide) ?_
              refine lv_iadd hx hb dmX13_turnRound_123_a ?_
              refine tw_iald mX_ok_a hx hb hK hM mr_107_a hq dmX13_turnRound_124_a (fun v8 hq => ?_)
              refine lv_istore (lv' := [(8, .int v8), (7, .int (0 - v7)), (0, .ref (u 0)), (1, .int x1), (2, .int x2), (3, .int x3), (4, .int x4), (5, .int x5), (6, .int x6)]) hx hb dmX13_turnRound_125_a hl (by decide) rfl (fun ls hl => ?_)
              refine lv_iload hx hb dmX13_turnRound_127_a (lv_at hl 1 rfl) ?_
              refine lv_iload hx hb dmX13_turnRound_129_a (lv_at hl 0 rfl) ?_
              refine lv_isub hx hb dmX13_turnRound_131_a ?_
              refine va_mabs hx hb (by rw [hml]; exact hl.1.symm) hown (hT _ wq_8_a) (hT _ wq_9_a) (hT _ wq_10_a) (hT _ wq_11_a) (Nat.le_of_ble_eq_true rfl) (Nat.le_of_ble_eq_true rfl) (Nat.le_of_ble_eq_true rfl) (Nat.le_of_ble_eq_true rfl) dmX13_turnRound_132_a ?_
              refine lv_istore (lv' := [(9, .int (if 0 ≤ ((0 - v7) - v8) then ((0 - v7) - v8) else 0 - ((0 - v7) - v8))), (8, .int v8), (7, .int (0 - v7)), (0, .ref (u 0)), (1, .int x1), (2, .int x2), (3, .int x3), (4, .int x4), (5, .int x5), (6, .int x6)]) hx hb dmX13_turnRound_135_a hl (by decide) rfl (fun ls hl => ?_)
              refine lv_iload hx hb dmX13_turnRound_137_a (lv_at hl 0 rfl) ?_
              refine lv_if_ne (tgt := 183) hx hb dmX13_turnRound_139_a (by decide) (fun hc => ?_) (fun hc => ?_)
              · have hq := tw_if hq hc
                refine lv_iload hx hb dmX13_turnRound_183_a (lv_at hl 0 rfl) ?_
                refine lv_iconst (v := 1) hx hb dmX13_turnRound_185_a (by decide) ?_
                refine lv_icmp_ne (tgt := 269) hx hb dmX13_turnRound_186_a (by decide) (fun hc => ?_) (fun hc => ?_)
                · have hq := tw_if hq hc
                  refine lv_aload_n hx hb dmX13_turnRound_269_a rfl (lv_at hl 3 rfl) ?_
                  refine mg13_359_a hx hb hT hown hK hM dmX13_turnRound_270_a ?_
                  refine lv_iload hx hb dmX13_turnRound_273_a (lv_at hl 9 rfl) ?_
                  refine lv_iconst (v := 1) hx hb dmX13_turnRound_275_a (by decide) ?_
                  refine lv_iadd hx hb dmX13_turnRound_276_a ?_
                  refine lv_iconst (v := 0) hx hb dmX13_turnRound_277_a (by decide) ?_
                  refine lv_iload hx hb dmX13_turnRound_278_a (lv_at hl 2 rfl) ?_
                  refine lv_isub hx hb dmX13_turnRound_280_a ?_
                  refine tw_iast mX_ok_a hU hx hb hK hM mr_107_a hq dmX13_turnRound_281_a (fun z9 H locs hM hq => ?_)
                  exact ih_5 x1 x2 x3 x4 x5 x6 (0 - v7) v8 (if 0 ≤ ((0 - v7) - v8) then ((0 - v7) - v8) else 0 - ((0 - v7) - v8)) 0 z9 H locs ls hM (lv_sub hl [3, 4, 5, 6, 7, 8, 9, 2, 1, 0] rfl) hq
                · have hq := tw_it hq hc
                  refine lv_iload hx hb dmX13_turnRound_189_a (lv_at hl 8 rfl) ?_
                  refine lv_iconst (v := 1) hx hb dmX13_turnRound_191_a (by decide) ?_
                  refine lv_isub hx hb dmX13_turnRound_192_a ?_
                  refine lv_istore (lv' := [(10, .int (x5 - 1)), (9, .int (if 0 ≤ ((0 - v7) - v8) then ((0 - v7) - v8) else 0 - ((0 - v7) - v8))), (8, .int v8), (7, .int (0 - v7)), (0, .ref (u 0)), (1, .int x1), (2, .int x2), (3, .int x3), (4, .int x4), (5, .int x5), (6, .int x6)]) hx hb dmX13_turnRound_193_a hl (by decide) rfl (fun ls hl => ?_)
                  exact ih_4 x1 x2 x3 x4 x5 x6 (0 - v7) v8 (if 0 ≤ ((0 - v7) - v8) then ((0 - v7) - v8) else 0 - ((0 - v7) - v8)) (x5 - 1) z H locs ls hM (lv_sub hl [4, 5, 6, 7, 8, 9, 10, 3, 2, 1, 0] rfl) hq
              · have hq := tw_it hq hc
                refine lv_iload hx hb dmX13_turnRound_142_a (lv_at hl 9 rfl) ?_
                refine lv_istore (lv' := [(10, .int x6), (9, .int (if 0 ≤ ((0 - v7) - v8) then ((0 - v7) - v8) else 0 - ((0 - v7) - v8))), (8, .int v8), (7, .int (0 - v7)), (0, .ref (u 0)), (1, .int x1), (2, .int x2), (3, .int x3), (4, .int x4), (5, .int x5), (6, .int x6)]) hx hb dmX13_turnRound_144_a hl (by decide) rfl (fun ls hl => ?_)
                exact ih_3 x1 x2 x3 x4 x5 x6 (0 - v7) v8 (if 0 ≤ ((0 - v7) - v8) then ((0 - v7) - v8) else 0 - ((0 - v7) - v8)) x6 z H locs ls hM (lv_sub hl [4, 5, 6, 7, 8, 9, 10, 3, 2, 1, 0] rfl) hq
      · intro x1 x2 x3 x4 x5 x6 x7 x8 x9 x10 z H locs ls  hM hl hq
        have hq : qm_X13_turnRound_3_a K (q_X13_turnRound_a K k) x1 x2 x3 x4 x5 x6 x7 x8 x9 x10 z = some z1 := hq
        unfold qm_X13_turnRound_3_a at hq
        refine lv_iload hx hb dmX13_turnRound_146_a (lv_at hl 10 rfl) ?_
        refine lv_iconst (v := 2) hx hb dmX13_turnRound_148_a (by decide) ?_
        refine lv_iadd hx hb dmX13_turnRound_149_a ?_
        refine lv_iload hx hb dmX13_turnRound_150_a (lv_at hl 5 rfl) ?_
        refine lv_icmp_ge (tgt := 177) hx hb dmX13_turnRound_152_a (by decide) (fun hc => ?_) (fun hc => ?_)
        · have hq := tw_it hq hc
          refine lv_iinc (v := (x5 + (-2))) (lv' := [(5, .int (x5 + (-2))), (0, .ref (u 0)), (1, .int x1), (2, .int x2), (3, .int x3), (4, .int x4), (6, .int x6), (7, .int x7), (8, .int x8), (9, .int x9), (10, .int x10)]) hx hb dmX13_turnRound_177_a hl (k := 5) rfl rfl (by decide) rfl (fun ls hl => ?_)
          refine lv_goto (tgt := 291) hx hb dmX13_turnRound_180_a (by decide) ?_
          exact ih_6 x1 x2 x3 x4 (x5 + (-2)) x6 x7 x8 x9 0 z H locs ls hM (lv_sub hl [1, 2, 3, 4, 5, 0, 6, 7, 8, 9] rfl) hq
        · have hq := tw_if hq hc
          refine lv_aload_n hx hb dmX13_turnRound_155_a rfl (lv_at hl 0 rfl) ?_
          refine mg13_359_a hx hb hT hown hK hM dmX13_turnRound_156_a ?_
          refine lv_iload hx hb dmX13_turnRound_159_a (lv_at hl 10 rfl) ?_
          refine lv_aload_n hx hb dmX13_turnRound_161_a rfl (lv_at hl 0 rfl) ?_
          refine mg13_359_a hx hb hT hown hK hM dmX13_turnRound_162_a ?_
          refine lv_iload hx hb dmX13_turnRound_165_a (lv_at hl 10 rfl) ?_
          refine lv_iconst (v := 2) hx hb dmX13_turnRound_167_a (by decide) ?_
          refine lv_iadd hx hb dmX13_turnRound_168_a ?_
          refine tw_iald mX_ok_a hx hb hK hM mr_107_a hq dmX13_turnRound_169_a (fun v10 hq => ?_)
          refine tw_iast mX_ok_a hU hx hb hK hM mr_107_a hq dmX13_turnRound_170_a (fun z11 H locs hM hq => ?_)
          refine lv_iinc (v := (x10 + 1)) (lv' := [(10, .int (x10 + 1)), (0, .ref (u 0)), (1, .int x1), (2, .int x2), (3, .int x3), (4, .int x4), (5, .int x5), (6, .int x6), (7, .int x7), (8, .int x8), (9, .int x9)]) hx hb dmX13_turnRound_171_a hl (k := 10) rfl rfl (by decide) rfl (fun ls hl => ?_)
          refine lv_goto (tgt := 146) hx hb dmX13_turnRound_174_a (by decide) ?_
          exact ih_3 x1 x2 x3 x4 x5 x6 x7 x8 x9 (x10 + 1) z11 H locs ls hM (lv_sub hl [1, 2, 3, 4, 5, 6, 7, 8, 9, 10, 0] rfl) hq
      · intro x1 x2 x3 x4 x5 x6 x7 x8 x9 x10 z H locs ls  hM hl hq
        have hq : qm_X13_turnRound_4_a K (q_X13_turnRound_a K k) x1 x2 x3 x4 x5 x6 x7 x8 x9 x10 z = some z1 := hq
        unfold qm_X13_turnRound_4_a at hq
        refine lv_iload hx hb dmX13_turnRound_195_a (lv_at hl 10 rfl) ?_
        refine lv_iload hx hb dmX13_turnRound_197_a (lv_at hl 6 rfl) ?_
        refine lv_iconst (v := 2) hx hb dmX13_turnRound_199_a (by decide) ?_
        refine lv_iadd hx hb dmX13_turnRound_200_a ?_
        refine lv_icmp_lt (tgt := 226) hx hb dmX13_turnRound_201_a (by decide) (fun hc => ?_) (fun hc => ?_)
        · have hq := tw_it hq hc
          refine lv_iinc (v := (x5 + 2)) (lv' := [(5, .int (x5 + 2)), (0, .ref (u 0)), (1, .int x1), (2, .int x2), (3, .int x3), (4, .int x4), (6, .int x6), (7, .int x7), (8, .int x8), (9, .int x9), (10, .int x10)]) hx hb dmX13_turnRound_226_a hl (k := 5) rfl rfl (by decide) rfl (fun ls hl => ?_)
          refine lv_aload_n hx hb dmX13_turnRound_229_a rfl (lv_at hl 1 rfl) ?_
          refine mg13_359_a hx hb hT hown hK hM dmX13_turnRound_230_a ?_
          refine lv_iload hx hb dmX13_turnRound_233_a (lv_at hl 6 rfl) ?_
          refine lv_iconst (v := 1) hx hb dmX13_turnRound_235_a (by decide) ?_
          refine lv_iadd hx hb dmX13_turnRound_236_a ?_
          refine lv_iload hx hb dmX13_turnRound_237_a (lv_at hl 7 rfl) ?_
          refine tw_iast mX_ok_a hU hx hb hK hM mr_107_a hq dmX13_turnRound_239_a (fun z12 H locs hM hq => ?_)
          refine lv_aload_n hx hb dmX13_turnRound_240_a rfl (lv_at hl 1 rfl) ?_
          refine mg13_359_a hx hb hT hown hK hM dmX13_turnRound_241_a ?_
          refine lv_iload hx hb dmX13_turnRound_244_a (lv_at hl 6 rfl) ?_
          refine lv_iconst (v := 2) hx hb dmX13_turnRound_246_a (by decide) ?_
          refine lv_iadd hx hb dmX13_turnRound_247_a ?_
          refine lv_iconst (v := 0) hx hb dmX13_turnRound_248_a (by decide) ?_
          refine lv_iload hx hb dmX13_turnRound_249_a (lv_at hl 8 rfl) ?_
          refine lv_isub hx hb dmX13_turnRound_251_a ?_
          refine tw_iast mX_ok_a hU hx hb hK hM mr_107_a hq dmX13_turnRound_252_a (fun z13 H locs hM hq => ?_)
          refine lv_aload_n hx hb dmX13_turnRound_253_a rfl (lv_at hl 1 rfl) ?_
          refine mg13_359_a hx hb hT hown hK hM dmX13_turnRound_254_a ?_
          refine lv_iload hx hb dmX13_turnRound_257_a (lv_at hl 6 rfl) ?_
          refine lv_iconst (v := 3) hx hb dmX13_turnRound_259_a (by decide) ?_
          refine lv_iadd hx hb dmX13_turnRound_260_a ?_
          refine lv_iconst (v := 0) hx hb dmX13_turnRound_261_a (by decide) ?_
          refine lv_iload hx hb dmX13_turnRound_262_a (lv_at hl 7 rfl) ?_
          refine lv_isub hx hb dmX13_turnRound_264_a ?_
          refine tw_iast mX_ok_a hU hx hb hK hM mr_107_a hq dmX13_turnRound_265_a (fun z14 H locs hM hq => ?_)
          refine lv_goto (tgt := 282) hx hb dmX13_turnRound_266_a (by decide) ?_
          exact ih_5 x1 x2 x3 x4 (x5 + 2) x6 x7 x8 x9 0 z14 H locs ls hM (lv_sub hl [1, 2, 3, 4, 5, 0, 6, 7, 8, 9] rfl) hq
        · have hq := tw_if hq hc
          refine lv_aload_n hx hb dmX13_turnRound_204_a rfl (lv_at hl 0 rfl) ?_
          refine mg13_359_a hx hb hT hown hK hM dmX13_turnRound_205_a ?_
          refine lv_iload hx hb dmX13_turnRound_208_a (lv_at hl 10 rfl) ?_
          refine lv_iconst (v := 2) hx hb dmX13_turnRound_210_a (by decide) ?_
          refine lv_iadd hx hb dmX13_turnRound_211_a ?_
          refine lv_aload_n hx hb dmX13_turnRound_212_a rfl (lv_at hl 0 rfl) ?_
          refine mg13_359_a hx hb hT hown hK hM dmX13_turnRound_213_a ?_
          refine lv_iload hx hb dmX13_turnRound_216_a (lv_at hl 10 rfl) ?_
          refine tw_iald mX_ok_a hx hb hK hM mr_107_a hq dmX13_turnRound_218_a (fun v15 hq => ?_)
          refine tw_iast mX_ok_a hU hx hb hK hM mr_107_a hq dmX13_turnRound_219_a (fun z16 H locs hM hq => ?_)
          refine lv_iinc (v := (x10 + (-1))) (lv' := [(10, .int (x10 + (-1))), (0, .ref (u 0)), (1, .int x1), (2, .int x2), (3, .int x3), (4, .int x4), (5, .int x5), (6, .int x6), (7, .int x7), (8, .int x8), (9, .int x9)]) hx hb dmX13_turnRound_220_a hl (k := 10) rfl rfl (by decide) rfl (fun ls hl => ?_)
          refine lv_goto (tgt := 195) hx hb dmX13_turnRound_223_a (by decide) ?_
          exact ih_4 x1 x2 x3 x4 x5 x6 x7 x8 x9 (x10 + (-1)) z16 H locs ls hM (lv_sub hl [1, 2, 3, 4, 5, 6, 7, 8, 9, 10, 0] rfl) hq
      · intro x1 x2 x3 x4 x5 x6 x7 x8 x9 x10 z H locs ls  hM hl hq
        have hq : qm_X13_turnRound_5_a K (q_X13_turnRound_a K k) x1 x2 x3 x4 x5 x6 x7 x8 x9 x10 z = some z1 := hq
        unfold qm_X13_turnRound_5_a at hq
        refine lv_aload_n hx hb dmX13_turnRound_282_a rfl (lv_at hl 0 rfl) ?_
        refine mg13_359_a hx hb hT hown hK hM dmX13_turnRound_283_a ?_
        refine lv_iload hx hb dmX13_turnRound_286_a (lv_at hl 6 rfl) ?_
        refine lv_iload hx hb dmX13_turnRound_288_a (lv_at hl 8 rfl) ?_
        refine tw_iast mX_ok_a hU hx hb hK hM mr_107_a hq dmX13_turnRound_290_a (fun z17 H locs hM hq => ?_)
        exact ih_6 x1 x2 x3 x4 x5 x6 x7 x8 x9 0 z17 H locs ls hM (lv_sub hl [0, 1, 2, 3, 4, 5, 6, 7, 8, 9] rfl) hq
      · intro x1 x2 x3 x4 x5 x6 x7 x8 x9 x10 z H locs ls  hM hl hq
        have hq : qm_X13_turnRound_6_a K (q_X13_turnRound_a K k) x1 x2 x3 x4 x5 x6 x7 x8 x9 x10 z = some z1 := hq
        unfold qm_X13_turnRound_6_a at hq
        refine lv_iconst (v := 0) hx hb dmX13_turnRound_291_a (by decide) ?_
        refine lv_istore (lv' := [(6, .int 0), (0, .ref (u 0)), (1, .int x1), (2, .int x2), (3, .int x3), (4, .int x4), (5, .int x5), (7, .int x7), (8, .int x8), (9, .int x9)]) hx hb dmX13_turnRound_292_a hl (by decide) rfl (fun ls hl => ?_)
        refine lv_goto (tgt := 74) hx hb dmX13_turnRound_294_a (by decide) ?_
        exact ih_2 x1 x2 x3 x4 x5 0 0 0 0 0 z H locs ls hM (lv_sub hl [1, 2, 3, 4, 5, 6, 0] rfl) hq
      · intro x1 x2 x3 x4 x5 x6 x7 x8 x9 x10 z H locs ls  hM hl hq
        have hq : qm_X13_turnRound_7_a K (q_X13_turnRound_a K k) x1 x2 x3 x4 x5 x6 x7 x8 x9 x10 z = some z1 := hq
        unfold qm_X13_turnRound_7_a at hq
        refine lv_iinc (v := (x6 + 1)) (lv' := [(6, .int (x6 + 1)), (0, .ref (u 0)), (1, .int x1), (2, .int x2), (3, .int x3), (4, .int x4), (5, .int x5)]) hx hb dmX13_turnRound_297_a hl (k := 6) rfl rfl (by decide) rfl (fun ls hl => ?_)
        refine lv_goto (tgt := 74) hx hb dmX13_turnRound_300_a (by decide) ?_
        exact ih_2 x1 x2 x3 x4 x5 (x6 + 1) 0 0 0 0 z H locs ls hM (lv_sub hl [1, 2, 3, 4, 5, 6, 0] rfl) hq
      · intro x1 x2 x3 x4 x5 x6 x7 x8 x9 x10 z H locs ls  hM hl hq
        have hq : qm_X13_turnRound_8_a K (q_X13_turnRound_a K k) x1 x2 x3 x4 x5 x6 x7 x8 x9 x10 z = some z1 := hq
        unfold qm_X13_turnRound_8_a at hq
        refine lv_iload hx hb dmX13_turnRound_309_a (lv_at hl 8 rfl) ?_
        refine lv_iload hx hb dmX13_turnRound_311_a (lv_at hl 5 rfl) ?_
        refine lv_icmp_ge (tgt := 358) hx hb dmX13_turnRound_313_a (by decide) (fun hc => ?_) (fun hc => ?_)
        · have hq := tw_it hq hc
          exact ih_9 x1 x2 x3 x4 x5 x6 x7 x8 0 0 z H locs ls hM (lv_sub hl [0, 1, 2, 3, 4, 5, 6, 7, 8] rfl) hq
        · have hq := tw_if hq hc
          refine lv_aload_n hx hb dmX13_turnRound_316_a rfl (lv_at hl 0 rfl) ?_
          refine mg13_359_a hx hb hT hown hK hM dmX13_turnRound_317_a ?_
          refine lv_iload hx hb dmX13_turnRound_320_a (lv_at hl 8 rfl) ?_
          refine tw_iald mX_ok_a hx hb hK hM mr_107_a hq dmX13_turnRound_322_a (fun v18 hq => ?_)
          refine lv_if_le (tgt := 358) hx hb dmX13_turnRound_323_a (by decide) (fun hc => ?_) (fun hc => ?_)
          · have hq := tw_it hq hc
            exact ih_9 x1 x2 x3 x4 x5 x6 x7 x8 0 0 z H locs ls hM (lv_sub hl [0, 1, 2, 3, 4, 5, 6, 7, 8] rfl) hq
          · have hq := tw_if hq hc
            refine lv_aload_n hx hb dmX13_turnRound_326_a rfl (lv_at hl 0 rfl) ?_
            refine mg13_341_a hx hb hT hown hK hM dmX13_turnRound_327_a ?_
            refine lv_iconst (v := 4) hx hb dmX13_turnRound_330_a (by decide) ?_
            refine lv_bipush (v := 120) hx hb dmX13_turnRound_331_a (by decide) ?_
            refine lv_iload_n hx hb dmX13_turnRound_333_a rfl (lv_at hl 1 rfl) ?_
            refine lv_imul hx hb dmX13_turnRound_334_a ?_
            refine lv_iload hx hb dmX13_turnRound_335_a (lv_at hl 7 rfl) ?_
            refine lv_iadd hx hb dmX13_turnRound_337_a ?_
            refine lv_imul hx hb dmX13_turnRound_338_a ?_
            refine lv_aload_n hx hb dmX13_turnRound_339_a rfl (lv_at hl 0 rfl) ?_
            refine mg13_359_a hx hb hT hown hK hM dmX13_turnRound_340_a ?_
            refine lv_iload hx hb dmX13_turnRound_343_a (lv_at hl 8 rfl) ?_
            refine tw_iald mX_ok_a hx hb hK hM mr_107_a hq dmX13_turnRound_345_a (fun v19 hq => ?_)
            refine lv_iadd hx hb dmX13_turnRound_346_a ?_
            refine lv_iconst (v := 1) hx hb dmX13_turnRound_347_a (by decide) ?_
            refine lv_isub hx hb dmX13_turnRound_348_a ?_
            refine tw_iald mX_ok_a hx hb hK hM mr_101_a hq dmX13_turnRound_349_a (fun v20 hq => ?_)
            refine lv_istore (lv' := [(7, .int v20), (0, .ref (u 0)), (1, .int x1), (2, .int x2), (3, .int x3), (4, .int x4), (5, .int x5), (6, .int x6), (8, .int x8)]) hx hb dmX13_turnRound_350_a hl (by decide) rfl (fun ls hl => ?_)
            refine lv_iinc (v := (x8 + 1)) (lv' := [(8, .int (x8 + 1)), (7, .int v20), (0, .ref (u 0)), (1, .int x1), (2, .int x2), (3, .int x3), (4, .int x4), (5, .int x5), (6, .int x6)]) hx hb dmX13_turnRound_352_a hl (k := 8) rfl rfl (by decide) rfl (fun ls hl => ?_)
            refine lv_goto (tgt := 309) hx hb dmX13_turnRound_355_a (by decide) ?_
            exact ih_8 x1 x2 x3 x4 x5 x6 v20 (x8 + 1) 0 0 z H locs ls hM (lv_sub hl [2, 3, 4, 5, 6, 7, 8, 1, 0] rfl) hq
      · intro x1 x2 x3 x4 x5 x6 x7 x8 x9 x10 z H locs ls  hM hl hq
        have hq : qm_X13_turnRound_9_a K (q_X13_turnRound_a K k) x1 x2 x3 x4 x5 x6 x7 x8 x9 x10 z = some z1 := hq
        unfold qm_X13_turnRound_9_a at hq
        refine lv_iconst (v := 0) hx hb dmX13_turnRound_358_a (by decide) ?_
        refine lv_istore (lv' := [(9, .int 0), (0, .ref (u 0)), (1, .int x1), (2, .int x2), (3, .int x3), (4, .int x4), (5, .int x5), (6, .int x6), (7, .int x7), (8, .int x8)]) hx hb dmX13_turnRound_359_a hl (by decide) rfl (fun ls hl => ?_)
        refine lv_iload hx hb dmX13_turnRound_361_a (lv_at hl 6 rfl) ?_
        refine lv_iconst (v := 1) hx hb dmX13_turnRound_363_a (by decide) ?_
        refine lv_isub hx hb dmX13_turnRound_364_a ?_
        refine lv_istore (lv' := [(10, .int (x5 - 1)), (9, .int 0), (0, .ref (u 0)), (1, .int x1), (2, .int x2), (3, .int x3), (4, .int x4), (5, .int x5), (6, .int x6), (7, .int x7), (8, .int x8)]) hx hb dmX13_turnRound_365_a hl (by decide) rfl (fun ls hl => ?_)
        exact ih_10 x1 x2 x3 x4 x5 x6 x7 x8 0 (x5 - 1) z H locs ls hM (lv_sub hl [2, 3, 4, 5, 6, 7, 8, 9, 10, 1, 0] rfl) hq
      · intro x1 x2 x3 x4 x5 x6 x7 x8 x9 x10 z H locs ls  hM hl hq
        have hq : qm_X13_turnRound_10_a K (q_X13_turnRound_a K k) x1 x2 x3 x4 x5 x6 x7 x8 x9 x10 z = some z1 := hq
        unfold qm_X13_turnRound_10_a at hq
        refine lv_iload hx hb dmX13_turnRound_367_a (lv_at hl 10 rfl) ?_
        refine lv_iload hx hb dmX13_turnRound_369_a (lv_at hl 8 rfl) ?_
        refine lv_icmp_lt (tgt := 406) hx hb dmX13_turnRound_371_a (by decide) (fun hc => ?_) (fun hc => ?_)
        · have hq := tw_it hq hc
          refine lv_aload_n hx hb dmX13_turnRound_406_a rfl (lv_at hl 0 rfl) ?_
          refine mg13_350_a hx hb hT hown hK hM dmX13_turnRound_407_a ?_
          refine lv_iconst (v := 4) hx hb dmX13_turnRound_410_a (by decide) ?_
          refine lv_iload hx hb dmX13_turnRound_411_a (lv_at hl 4 rfl) ?_
          refine lv_imul hx hb dmX13_turnRound_413_a ?_
          refine lv_iload_n hx hb dmX13_turnRound_414_a rfl (lv_at hl 3 rfl) ?_
          refine lv_iadd hx hb dmX13_turnRound_415_a ?_
          refine lv_iload hx hb dmX13_turnRound_416_a (lv_at hl 7 rfl) ?_
          refine tw_iast mX_ok_a hU hx hb hK hM mr_104_a hq dmX13_turnRound_418_a (fun z21 H locs hM hq => ?_)
          refine lv_aload_n hx hb dmX13_turnRound_419_a rfl (lv_at hl 0 rfl) ?_
          refine mg13_353_a hx hb hT hown hK hM dmX13_turnRound_420_a ?_
          refine lv_iconst (v := 4) hx hb dmX13_turnRound_423_a (by decide) ?_
          refine lv_iload hx hb dmX13_turnRound_424_a (lv_at hl 4 rfl) ?_
          refine lv_imul hx hb dmX13_turnRound_426_a ?_
          refine lv_iload_n hx hb dmX13_turnRound_427_a rfl (lv_at hl 3 rfl) ?_
          refine lv_iadd hx hb dmX13_turnRound_428_a ?_
          refine lv_iload hx hb dmX13_turnRound_429_a (lv_at hl 9 rfl) ?_
          refine tw_iast mX_ok_a hU hx hb hK hM mr_105_a hq dmX13_turnRound_431_a (fun z22 H locs hM hq => ?_)
          exact mw_vret_a hx hb hr hlocks hM hq hQQ dmX13_turnRound_432_a
        · have hq := tw_if hq hc
          refine lv_aload_n hx hb dmX13_turnRound_374_a rfl (lv_at hl 0 rfl) ?_
          refine mg13_341_a hx hb hT hown hK hM dmX13_turnRound_375_a ?_
          refine lv_iconst (v := 4) hx hb dmX13_turnRound_378_a (by decide) ?_
          refine lv_bipush (v := 120) hx hb dmX13_turnRound_379_a (by decide) ?_
          refine lv_iload_n hx hb dmX13_turnRound_381_a rfl (lv_at hl 1 rfl) ?_
          refine lv_imul hx hb dmX13_turnRound_382_a ?_
          refine lv_iload hx hb dmX13_turnRound_383_a (lv_at hl 9 rfl) ?_
          refine lv_iadd hx hb dmX13_turnRound_385_a ?_
          refine lv_imul hx hb dmX13_turnRound_386_a ?_
          refine lv_aload_n hx hb dmX13_turnRound_387_a rfl (lv_at hl 0 rfl) ?_
          refine mg13_359_a hx hb hT hown hK hM dmX13_turnRound_388_a ?_
          refine lv_iload hx hb dmX13_turnRound_391_a (lv_at hl 10 rfl) ?_
          refine tw_iald mX_ok_a hx hb hK hM mr_107_a hq dmX13_turnRound_393_a (fun v23 hq => ?_)
          refine lv_isub hx hb dmX13_turnRound_394_a ?_
          refine lv_iconst (v := 1) hx hb dmX13_turnRound_395_a (by decide) ?_
          refine lv_isub hx hb dmX13_turnRound_396_a ?_
          refine tw_iald mX_ok_a hx hb hK hM mr_101_a hq dmX13_turnRound_397_a (fun v24 hq => ?_)
          refine lv_istore (lv' := [(9, .int v24), (0, .ref (u 0)), (1, .int x1), (2, .int x2), (3, .int x3), (4, .int x4), (5, .int x5), (6, .int x6), (7, .int x7), (8, .int x8), (10, .int x10)]) hx hb dmX13_turnRound_398_a hl (by decide) rfl (fun ls hl => ?_)
          refine lv_iinc (v := (x10 + (-1))) (lv' := [(10, .int (x10 + (-1))), (9, .int v24), (0, .ref (u 0)), (1, .int x1), (2, .int x2), (3, .int x3), (4, .int x4), (5, .int x5), (6, .int x6), (7, .int x7), (8, .int x8)]) hx hb dmX13_turnRound_400_a hl (k := 10) rfl rfl (by decide) rfl (fun ls hl => ?_)
          refine lv_goto (tgt := 367) hx hb dmX13_turnRound_403_a (by decide) ?_
          exact ih_10 x1 x2 x3 x4 x5 x6 x7 x8 v24 (x10 + (-1)) z H locs ls hM (lv_sub hl [2, 3, 4, 5, 6, 7, 8, 9, 10, 1, 0] rfl) hq
  exact (key K).1 x1 x2 x3 0 0 0 0 0 0 0 z s.heap [] ls  hM (lv_sub hl [0, 1, 2, 3] rfl) hq
theorem dmX13_makeTurned_0_a : decode cX13_makeTurned 0 = .ok (.iconst 0, 1) := dw_at cX13_makeTurned_k0 (p := 0) rfl (by decide +kernel)
theorem dmX13_makeTurned_1_a : decode cX13_makeTurned 1 = .ok (.istore_n 2, 1) := dw_at cX13_makeTurned_k0 (p := 1) rfl (by decide +kernel)
theorem dmX13_makeTurned_2_a : decode cX13_makeTurned 2 = .ok (.iload_n 2, 1) := dw_at cX13_makeTurned_k0 (p := 2) rfl (by decide +kernel)
theorem dmX13_makeTurned_3_a : decode cX13_makeTurned 3 = .ok (.aload_n 0, 1) := dw_at cX13_makeTurned_k0 (p := 3) rfl (by decide +kernel)
theorem dmX13_makeTurned_4_a : decode cX13_makeTurned 4 = .ok (.getfield 329, 3) := dw_at cX13_makeTurned_k0 (p := 4) rfl (by decide +kernel)
theorem dmX13_makeTurned_7_a : decode cX13_makeTurned 7 = .ok (.iload_n 1, 1) := dw_at cX13_makeTurned_k0 (p := 7) rfl (by decide +kernel)
theorem dmX13_makeTurned_8_a : decode cX13_makeTurned 8 = .ok (.iaload, 1) := dw_at cX13_makeTurned_k0 (p := 8) rfl (by decide +kernel)
theorem dmX13_makeTurned_9_a : decode cX13_makeTurned 9 = .ok (.if_icmp .ge 146, 3) := dw_at cX13_makeTurned_k0 (p := 9) rfl (by decide +kernel)
theorem dmX13_makeTurned_12_a : decode cX13_makeTurned 12 = .ok (.bipush 120, 2) := dw_at cX13_makeTurned_k0 (p := 12) rfl (by decide +kernel)
theorem dmX13_makeTurned_14_a : decode cX13_makeTurned 14 = .ok (.iload_n 1, 1) := dw_at cX13_makeTurned_k0 (p := 14) rfl (by decide +kernel)
theorem dmX13_makeTurned_15_a : decode cX13_makeTurned 15 = .ok (.imul, 1) := dw_at cX13_makeTurned_k0 (p := 15) rfl (by decide +kernel)
theorem dmX13_makeTurned_16_a : decode cX13_makeTurned 16 = .ok (.iload_n 2, 1) := dw_at cX13_makeTurned_k0 (p := 16) rfl (by decide +kernel)
theorem dmX13_makeTurned_17_a : decode cX13_makeTurned 17 = .ok (.iadd, 1) := dw_at cX13_makeTurned_k0 (p := 17) rfl (by decide +kernel)
theorem dmX13_makeTurned_18_a : decode cX13_makeTurned 18 = .ok (.istore_n 3, 1) := dw_at cX13_makeTurned_k0 (p := 18) rfl (by decide +kernel)
theorem dmX13_makeTurned_19_a : decode cX13_makeTurned 19 = .ok (.iconst 0, 1) := dw_at cX13_makeTurned_k0 (p := 19) rfl (by decide +kernel)
theorem dmX13_makeTurned_20_a : decode cX13_makeTurned 20 = .ok (.istore 4, 2) := dw_at cX13_makeTurned_k0 (p := 20) rfl (by decide +kernel)
theorem dmX13_makeTurned_22_a : decode cX13_makeTurned 22 = .ok (.iload 4, 2) := dw_at cX13_makeTurned_k0 (p := 22) rfl (by decide +kernel)
theorem dmX13_makeTurned_24_a : decode cX13_makeTurned 24 = .ok (.iload_n 1, 1) := dw_at cX13_makeTurned_k1 (p := 0) rfl (by decide +kernel)
theorem dmX13_makeTurned_25_a : decode cX13_makeTurned 25 = .ok (.if_icmp .ge 53, 3) := dw_at cX13_makeTurned_k1 (p := 1) rfl (by decide +kernel)
theorem dmX13_makeTurned_28_a : decode cX13_makeTurned 28 = .ok (.iconst 0, 1) := dw_at cX13_makeTurned_k1 (p := 4) rfl (by decide +kernel)
theorem dmX13_makeTurned_29_a : decode cX13_makeTurned 29 = .ok (.istore 5, 2) := dw_at cX13_makeTurned_k1 (p := 5) rfl (by decide +kernel)
theorem dmX13_makeTurned_31_a : decode cX13_makeTurned 31 = .ok (.iload 5, 2) := dw_at cX13_makeTurned_k1 (p := 7) rfl (by decide +kernel)
theorem dmX13_makeTurned_33_a : decode cX13_makeTurned 33 = .ok (.iload_n 1, 1) := dw_at cX13_makeTurned_k1 (p := 9) rfl (by decide +kernel)
theorem dmX13_makeTurned_34_a : decode cX13_makeTurned 34 = .ok (.if_icmp .ge 38, 3) := dw_at cX13_makeTurned_k1 (p := 10) rfl (by decide +kernel)
theorem dmX13_makeTurned_37_a : decode cX13_makeTurned 37 = .ok (.aload_n 0, 1) := dw_at cX13_makeTurned_k1 (p := 13) rfl (by decide +kernel)
theorem dmX13_makeTurned_38_a : decode cX13_makeTurned 38 = .ok (.getfield 332, 3) := dw_at cX13_makeTurned_k1 (p := 14) rfl (by decide +kernel)
theorem dmX13_makeTurned_41_a : decode cX13_makeTurned 41 = .ok (.iconst 5, 1) := dw_at cX13_makeTurned_k1 (p := 17) rfl (by decide +kernel)
theorem dmX13_makeTurned_42_a : decode cX13_makeTurned 42 = .ok (.iload_n 3, 1) := dw_at cX13_makeTurned_k1 (p := 18) rfl (by decide +kernel)
theorem dmX13_makeTurned_43_a : decode cX13_makeTurned 43 = .ok (.imul, 1) := dw_at cX13_makeTurned_k1 (p := 19) rfl (by decide +kernel)
theorem dmX13_makeTurned_44_a : decode cX13_makeTurned 44 = .ok (.iload 5, 2) := dw_at cX13_makeTurned_k1 (p := 20) rfl (by decide +kernel)
theorem dmX13_makeTurned_46_a : decode cX13_makeTurned 46 = .ok (.iadd, 1) := dw_at cX13_makeTurned_k1 (p := 22) rfl (by decide +kernel)
theorem dmX13_makeTurned_47_a : decode cX13_makeTurned 47 = .ok (.iaload, 1) := dw_at cX13_makeTurned_k1 (p := 23) rfl (by decide +kernel)
theorem dmX13_makeTurned_48_a : decode cX13_makeTurned 48 = .ok (.iload_n 1, 1) := dw_at cX13_makeTurned_k2 (p := 0) rfl (by decide +kernel)
theorem dmX13_makeTurned_49_a : decode cX13_makeTurned 49 = .ok (.iconst 1, 1) := dw_at cX13_makeTurned_k2 (p := 1) rfl (by decide +kernel)
theorem dmX13_makeTurned_50_a : decode cX13_makeTurned 50 = .ok (.isub, 1) := dw_at cX13_makeTurned_k2 (p := 2) rfl (by decide +kernel)
theorem dmX13_makeTurned_51_a : decode cX13_makeTurned 51 = .ok (.iload 4, 2) := dw_at cX13_makeTurned_k2 (p := 3) rfl (by decide +kernel)
theorem dmX13_makeTurned_53_a : decode cX13_makeTurned 53 = .ok (.isub, 1) := dw_at cX13_makeTurned_k2 (p := 5) rfl (by decide +kernel)
theorem dmX13_makeTurned_54_a : decode cX13_makeTurned 54 = .ok (.if_icmp .ne 12, 3) := dw_at cX13_makeTurned_k2 (p := 6) rfl (by decide +kernel)
theorem dmX13_makeTurned_57_a : decode cX13_makeTurned 57 = .ok (.aload_n 0, 1) := dw_at cX13_makeTurned_k2 (p := 9) rfl (by decide +kernel)
theorem dmX13_makeTurned_58_a : decode cX13_makeTurned 58 = .ok (.getfield 356, 3) := dw_at cX13_makeTurned_k2 (p := 10) rfl (by decide +kernel)
theorem dmX13_makeTurned_61_a : decode cX13_makeTurned 61 = .ok (.iload 4, 2) := dw_at cX13_makeTurned_k2 (p := 13) rfl (by decide +kernel)
theorem dmX13_makeTurned_63_a : decode cX13_makeTurned 63 = .ok (.iload 5, 2) := dw_at cX13_makeTurned_k2 (p := 15) rfl (by decide +kernel)
theorem dmX13_makeTurned_65_a : decode cX13_makeTurned 65 = .ok (.iastore, 1) := dw_at cX13_makeTurned_k2 (p := 17) rfl (by decide +kernel)
theorem dmX13_makeTurned_66_a : decode cX13_makeTurned 66 = .ok (.iinc 5 1, 3) := dw_at cX13_makeTurned_k2 (p := 18) rfl (by decide +kernel)
theorem dmX13_makeTurned_69_a : decode cX13_makeTurned 69 = .ok (.goto (-38), 3) := dw_at cX13_makeTurned_k2 (p := 21) rfl (by decide +kernel)
theorem dmX13_makeTurned_72_a : decode cX13_makeTurned 72 = .ok (.iinc 4 1, 3) := dw_at cX13_makeTurned_k3 (p := 0) rfl (by decide +kernel)
theorem dmX13_makeTurned_75_a : decode cX13_makeTurned 75 = .ok (.goto (-53), 3) := dw_at cX13_makeTurned_k3 (p := 3) rfl (by decide +kernel)
theorem dmX13_makeTurned_78_a : decode cX13_makeTurned 78 = .ok (.aload_n 0, 1) := dw_at cX13_makeTurned_k3 (p := 6) rfl (by decide +kernel)
theorem dmX13_makeTurned_79_a : decode cX13_makeTurned 79 = .ok (.getfield 344, 3) := dw_at cX13_makeTurned_k3 (p := 7) rfl (by decide +kernel)
theorem dmX13_makeTurned_82_a : decode cX13_makeTurned 82 = .ok (.iload_n 3, 1) := dw_at cX13_makeTurned_k3 (p := 10) rfl (by decide +kernel)
theorem dmX13_makeTurned_83_a : decode cX13_makeTurned 83 = .ok (.aload_n 0, 1) := dw_at cX13_makeTurned_k3 (p := 11) rfl (by decide +kernel)
theorem dmX13_makeTurned_84_a : decode cX13_makeTurned 84 = .ok (.iload_n 1, 1) := dw_at cX13_makeTurned_k3 (p := 12) rfl (by decide +kernel)
theorem dmX13_makeTurned_85_a : decode cX13_makeTurned 85 = .ok (.aload_n 0, 1) := dw_at cX13_makeTurned_k3 (p := 13) rfl (by decide +kernel)
theorem dmX13_makeTurned_86_a : decode cX13_makeTurned 86 = .ok (.getfield 356, 3) := dw_at cX13_makeTurned_k3 (p := 14) rfl (by decide +kernel)
theorem dmX13_makeTurned_89_a : decode cX13_makeTurned 89 = .ok (.invokevirtual 724, 3) := dw_at cX13_makeTurned_k3 (p := 17) rfl (by decide +kernel)
theorem dmX13_makeTurned_92_a : decode cX13_makeTurned 92 = .ok (.iastore, 1) := dw_at cX13_makeTurned_k3 (p := 20) rfl (by decide +kernel)
theorem dmX13_makeTurned_93_a : decode cX13_makeTurned 93 = .ok (.iconst 0, 1) := dw_at cX13_makeTurned_k3 (p := 21) rfl (by decide +kernel)
theorem dmX13_makeTurned_94_a : decode cX13_makeTurned 94 = .ok (.istore 4, 2) := dw_at cX13_makeTurned_k3 (p := 22) rfl (by decide +kernel)
theorem dmX13_makeTurned_96_a : decode cX13_makeTurned 96 = .ok (.iload 4, 2) := dw_at cX13_makeTurned_k4 (p := 0) rfl (by decide +kernel)
theorem dmX13_makeTurned_98_a : decode cX13_makeTurned 98 = .ok (.iload_n 1, 1) := dw_at cX13_makeTurned_k4 (p := 2) rfl (by decide +kernel)
theorem dmX13_makeTurned_99_a : decode cX13_makeTurned 99 = .ok (.if_icmp .ge 35, 3) := dw_at cX13_makeTurned_k4 (p := 3) rfl (by decide +kernel)
theorem dmX13_makeTurned_102_a : decode cX13_makeTurned 102 = .ok (.aload_n 0, 1) := dw_at cX13_makeTurned_k4 (p := 6) rfl (by decide +kernel)
theorem dmX13_makeTurned_103_a : decode cX13_makeTurned 103 = .ok (.getfield 356, 3) := dw_at cX13_makeTurned_k4 (p := 7) rfl (by decide +kernel)
theorem dmX13_makeTurned_106_a : decode cX13_makeTurned 106 = .ok (.iload 4, 2) := dw_at cX13_makeTurned_k4 (p := 10) rfl (by decide +kernel)
theorem dmX13_makeTurned_108_a : decode cX13_makeTurned 108 = .ok (.iload_n 1, 1) := dw_at cX13_makeTurned_k4 (p := 12) rfl (by decide +kernel)
theorem dmX13_makeTurned_109_a : decode cX13_makeTurned 109 = .ok (.iconst 1, 1) := dw_at cX13_makeTurned_k4 (p := 13) rfl (by decide +kernel)
theorem dmX13_makeTurned_110_a : decode cX13_makeTurned 110 = .ok (.isub, 1) := dw_at cX13_makeTurned_k4 (p := 14) rfl (by decide +kernel)
theorem dmX13_makeTurned_111_a : decode cX13_makeTurned 111 = .ok (.aload_n 0, 1) := dw_at cX13_makeTurned_k4 (p := 15) rfl (by decide +kernel)
theorem dmX13_makeTurned_112_a : decode cX13_makeTurned 112 = .ok (.getfield 332, 3) := dw_at cX13_makeTurned_k4 (p := 16) rfl (by decide +kernel)
theorem dmX13_makeTurned_115_a : decode cX13_makeTurned 115 = .ok (.iconst 5, 1) := dw_at cX13_makeTurned_k4 (p := 19) rfl (by decide +kernel)
theorem dmX13_makeTurned_116_a : decode cX13_makeTurned 116 = .ok (.iload_n 3, 1) := dw_at cX13_makeTurned_k4 (p := 20) rfl (by decide +kernel)
theorem dmX13_makeTurned_117_a : decode cX13_makeTurned 117 = .ok (.imul, 1) := dw_at cX13_makeTurned_k4 (p := 21) rfl (by decide +kernel)
theorem dmX13_makeTurned_118_a : decode cX13_makeTurned 118 = .ok (.iload_n 1, 1) := dw_at cX13_makeTurned_k4 (p := 22) rfl (by decide +kernel)
theorem dmX13_makeTurned_119_a : decode cX13_makeTurned 119 = .ok (.iadd, 1) := dw_at cX13_makeTurned_k4 (p := 23) rfl (by decide +kernel)
theorem dmX13_makeTurned_120_a : decode cX13_makeTurned 120 = .ok (.iconst 1, 1) := dw_at cX13_makeTurned_k5 (p := 0) rfl (by decide +kernel)
theorem dmX13_makeTurned_121_a : decode cX13_makeTurned 121 = .ok (.isub, 1) := dw_at cX13_makeTurned_k5 (p := 1) rfl (by decide +kernel)
theorem dmX13_makeTurned_122_a : decode cX13_makeTurned 122 = .ok (.iload 4, 2) := dw_at cX13_makeTurned_k5 (p := 2) rfl (by decide +kernel)
theorem dmX13_makeTurned_124_a : decode cX13_makeTurned 124 = .ok (.isub, 1) := dw_at cX13_makeTurned_k5 (p := 4) rfl (by decide +kernel)
theorem dmX13_makeTurned_125_a : decode cX13_makeTurned 125 = .ok (.iaload, 1) := dw_at cX13_makeTurned_k5 (p := 5) rfl (by decide +kernel)
theorem dmX13_makeTurned_126_a : decode cX13_makeTurned 126 = .ok (.isub, 1) := dw_at cX13_makeTurned_k5 (p := 6) rfl (by decide +kernel)
theorem dmX13_makeTurned_127_a : decode cX13_makeTurned 127 = .ok (.iastore, 1) := dw_at cX13_makeTurned_k5 (p := 7) rfl (by decide +kernel)
theorem dmX13_makeTurned_128_a : decode cX13_makeTurned 128 = .ok (.iinc 4 1, 3) := dw_at cX13_makeTurned_k5 (p := 8) rfl (by decide +kernel)
theorem dmX13_makeTurned_131_a : decode cX13_makeTurned 131 = .ok (.goto (-35), 3) := dw_at cX13_makeTurned_k5 (p := 11) rfl (by decide +kernel)
theorem dmX13_makeTurned_134_a : decode cX13_makeTurned 134 = .ok (.aload_n 0, 1) := dw_at cX13_makeTurned_k5 (p := 14) rfl (by decide +kernel)
theorem dmX13_makeTurned_135_a : decode cX13_makeTurned 135 = .ok (.getfield 347, 3) := dw_at cX13_makeTurned_k5 (p := 15) rfl (by decide +kernel)
theorem dmX13_makeTurned_138_a : decode cX13_makeTurned 138 = .ok (.iload_n 3, 1) := dw_at cX13_makeTurned_k5 (p := 18) rfl (by decide +kernel)
theorem dmX13_makeTurned_139_a : decode cX13_makeTurned 139 = .ok (.aload_n 0, 1) := dw_at cX13_makeTurned_k5 (p := 19) rfl (by decide +kernel)
theorem dmX13_makeTurned_140_a : decode cX13_makeTurned 140 = .ok (.iload_n 1, 1) := dw_at cX13_makeTurned_k5 (p := 20) rfl (by decide +kernel)
theorem dmX13_makeTurned_141_a : decode cX13_makeTurned 141 = .ok (.aload_n 0, 1) := dw_at cX13_makeTurned_k5 (p := 21) rfl (by decide +kernel)
theorem dmX13_makeTurned_142_a : decode cX13_makeTurned 142 = .ok (.getfield 356, 3) := dw_at cX13_makeTurned_k5 (p := 22) rfl (by decide +kernel)
theorem dmX13_makeTurned_145_a : decode cX13_makeTurned 145 = .ok (.invokevirtual 724, 3) := dw_at cX13_makeTurned_k6 (p := 0) rfl (by decide +kernel)
theorem dmX13_makeTurned_148_a : decode cX13_makeTurned 148 = .ok (.iastore, 1) := dw_at cX13_makeTurned_k6 (p := 3) rfl (by decide +kernel)
theorem dmX13_makeTurned_149_a : decode cX13_makeTurned 149 = .ok (.iinc 2 1, 3) := dw_at cX13_makeTurned_k6 (p := 4) rfl (by decide +kernel)
theorem dmX13_makeTurned_152_a : decode cX13_makeTurned 152 = .ok (.goto (-150), 3) := dw_at cX13_makeTurned_k6 (p := 7) rfl (by decide +kernel)
theorem dmX13_makeTurned_155_a : decode cX13_makeTurned 155 = .ok (.return_, 1) := dw_at cX13_makeTurned_k6 (p := 10) rfl (by decide +kernel)
def qm_X13_makeTurned_0_a (K : Nat) (go : Nat → Int32 → Int32 → Int32 → Int32 → Int32 → ow_MS → Option ow_MS) (x1 : Int32) (x2 : Int32) (x3 : Int32) (x4 : Int32) (x5 : Int32) (z : ow_MS) : Option ow_MS :=
 go 1 x1 0 0 0 0 z
def qm_X13_makeTurned_1_a (K : Nat) (go : Nat → Int32 → Int32 → Int32 → Int32 → Int32 → ow_MS → Option ow_MS) (x1 : Int32) (x2 : Int32) (x3 : Int32) (x4 : Int32) (x5 : Int32) (z : ow_MS) : Option ow_MS :=
 rdI mX_a z 97 x1 fun v1 => (if v1 ≤ x2 then some z
 else go 2 x1 x2 ((120 * x1) + x2) 0 0 z)
def qm_X13_makeTurned_2_a (K : Nat) (go : Nat → Int32 → Int32 → Int32 → Int32 → Int32 → ow_MS → Option ow_MS) (x1 : Int32) (x2 : Int32) (x3 : Int32) (x4 : Int32) (x5 : Int32) (z : ow_MS) : Option ow_MS :=
 (if x1 ≤ x4 then cs1 (qe_X13_find_a K x1 106 z) fun v3 z2 => wrI mX_a z2 102 x3 v3 fun z4 => go 5 x1 x2 x3 0 0 z4
 else go 3 x1 x2 x3 x4 0 z)
def qm_X13_makeTurned_3_a (K : Nat) (go : Nat → Int32 → Int32 → Int32 → Int32 → Int32 → ow_MS → Option ow_MS) (x1 : Int32) (x2 : Int32) (x3 : Int32) (x4 : Int32) (x5 : Int32) (z : ow_MS) : Option ow_MS :=
 (if x1 ≤ x5 then go 2 x1 x2 x3 (x4 + 1) 0 z
 else rdI mX_a z 98 ((5 * x3) + x5) fun v5 => (if v5 = ((x1 - 1) - x4) then wrI mX_a z 106 x4 x5 fun z6 => go 4 x1 x2 x3 x4 x5 z6
 else go 4 x1 x2 x3 x4 x5 z))
def qm_X13_makeTurned_4_a (K : Nat) (go : Nat → Int32 → Int32 → Int32 → Int32 → Int32 → ow_MS → Option ow_MS) (x1 : Int32) (x2 : Int32) (x3 : Int32) (x4 : Int32) (x5 : Int32) (z : ow_MS) : Option ow_MS :=
 go 3 x1 x2 x3 x4 (x5 + 1) z
def qm_X13_makeTurned_5_a (K : Nat) (go : Nat → Int32 → Int32 → Int32 → Int32 → Int32 → ow_MS → Option ow_MS) (x1 : Int32) (x2 : Int32) (x3 : Int32) (x4 : Int32) (x5 : Int32) (z : ow_MS) : Option ow_MS :=
 (if x1 ≤ x4 then cs1 (qe_X13_find_a K x1 106 z) fun v8 z7 => wrI mX_a z7 103 x3 v8 fun z9 => go 1 x1 (x2 + 1) 0 0 0 z9
 else rdI mX_a z 98 ((((5 * x3) + x1) - 1) - x4) fun v10 => wrI mX_a z 106 x4 ((x1 - 1) - v10) fun z11 => go 5 x1 x2 x3 (x4 + 1) 0 z11)
def qb_X13_makeTurned_a (K : Nat) (go : Nat → Int32 → Int32 → Int32 → Int32 → Int32 → ow_MS → Option ow_MS) (L : Nat) (x1 : Int32) (x2 : Int32) (x3 : Int32) (x4 : Int32) (x5 : Int32) (z : ow_MS) : Option ow_MS := match L with
  | 0 => qm_X13_makeTurned_0_a K go x1 x2 x3 x4 x5 z
  | 1 => qm_X13_makeTurned_1_a K go x1 x2 x3 x4 x5 z
  | 2 => qm_X13_makeTurned_2_a K go x1 x2 x3 x4 x5 z
  | 3 => qm_X13_makeTurned_3_a K go x1 x2 x3 x4 x5 z
  | 4 => qm_X13_makeTurned_4_a K go x1 x2 x3 x4 x5 z
  | 5 => qm_X13_makeTurned_5_a K go x1 x2 x3 x4 x5 z
  | _ => none
def q_X13_makeTurned_a (K : Nat) : Nat → Nat → Int32 → Int32 → Int32 → Int32 → Int32 → ow_MS → Option ow_MS
  | 0 => fun _ _ _ _ _ _ _ => none
  | k + 1 => qb_X13_makeTurned_a K (q_X13_makeTurned_a K k)
def qe_X13_makeTurned_a (K : Nat) (x1 : Int32) (z : ow_MS) : Option ow_MS := q_X13_makeTurned_a K K 0 x1 0 0 0 0 z
abbrev wm_X13_makeTurned_a : List Cond := .code yX13_makeTurned cX13_makeTurned 6 none :: wM_a
theorem cd_X13_makeTurned_a : yX13_makeTurned.cls = RX13 ∧ yX13_makeTurned.cls ≠ "java/lang/invoke/MethodHandle" ∧ yX13_makeTurned.cls ≠ "java/lang/invoke/VarHandle" ∧ (parseMethodDescriptor yX13_makeTurned.desc).map (fun d => d.parameters.length) = some 1 := by decide +kernel
set_option maxHeartbeats 4000000 in
set_option maxRecDepth 100000 in
theorem km_X13_makeTurned_a (l : Launch) (D : va_G) (q : ow_Q5) (u : Nat → Nat) (hU : tw_inj mX_a u) (K : Nat) (x1 : Int32)  (z z1 : ow_MS) (hq : qe_X13_makeTurned_a K x1 z = some z1) : Met l yX13_makeTurned wm_X13_makeTurned_a ({ frames := 1, cells := 0, slots := 0, locals := 25 } : Room) (va_Pc [.ref (u 0), .int x1] (mw_pre_a D q u z)) (va_Qv (fun (_ : Unit) => True) (fun _ t => va_P D vwCl (tw mX_a q u z1) t.heap) (tw_A mX_a u)) 0 0 (tw_A mX_a u) := by
  refine Met.ofW (cc := cX13_makeTurned) (maxL := 6) (ret := none) (by decide) rfl ?_
  intro p e s m args below meth c s₁ B hml hv
  obtain ⟨rfl, hP, hK, hN⟩ := hv
  have hx := B.exec
  have hb := B.bytes
  have hr := B.returns
  have hts := atoms_spec (ws := wm_X13_makeTurned_a) B.pre
  have hT : ∀ w ∈ wM_a, w.before ([.ref (u 0), .int x1] : List Value).toArray s = true := fun w h => hts w (List.mem_cons_of_mem _ h)
  have hown : s.vm.findClass RX13 = some m.cls := findClass_of_methodNamed B.named
  have hlocks := B.notSynchronized
  have hM : tw_M D vwCl mX_a q s.heap u z s.heap [] := ⟨hP, va_S.rf⟩
  have hl := lv_entry ([.ref (u 0), .int x1]) (n := 6) (Nat.le_of_ble_eq_true rfl)
  rw [lg_entry_eq]
  generalize (lg_sl ([.ref (u 0), .int x1]) ++ List.replicate (6 - (lg_sl ([.ref (u 0), .int x1])).length) Slot.unset).toArray = ls at hl ⊢
  have hl : lv_has ls 6 [(0, .ref (u 0)), (1, .int x1)] := hl
  refine ow_named (fun QQ hQQ => ?_)
  generalize ([.ref (u 0), .int x1] : List Value).toArray = args at hts hT hQQ ⊢
  have key : ∀ k : Nat, (∀ (x1 : Int32) (x2 : Int32) (x3 : Int32) (x4 : Int32) (x5 : Int32) (z : ow_MS) (H : Heap) (locs : List Loc) (ls : Array Slot), tw_M D vwCl mX_a q s.heap u z H locs → lv_has ls 6 [(0, .ref (u 0)), (1, .int x1)] → q_X13_makeTurned_a K k 0 x1 x2 x3 x4 x5 z = some z1 → W p l e ({ frames := 1, cells := 0, slots := 0, locals := 25 } : Room) s m args below meth c H locs 0 0 QQ (F0 m 0 ls [])) ∧ (∀ (x1 : Int32) (x2 : Int32) (x3 : Int32) (x4 : Int32) (x5 : Int32) (z : ow_MS) (H : Heap) (locs : List Loc) (ls : Array Slot), tw_M D vwCl mX_a q s.heap u z H locs → lv_has ls 6 [(0, .ref (u 0)), (1, .int x1), (2, .int x2)] → q_X13_makeTurned_a K k 1 x1 x2 x3 x4 x5 z = some z1 → W p l e ({ frames := 1, cells := 0, slots := 0, locals := 25 } : Room) s m args below meth c H locs 0 0 QQ (F0 m 2 ls [])) ∧ (∀ (x1 : Int32) (x2 : Int32) (x3 : Int32) (x4 : Int32) (x5 : Int32) (z : ow_MS) (H : Heap) (locs : List Loc) (ls : Array Slot), tw_M D vwCl mX_a q s.heap u z H locs → lv_has ls 6 [(0, .ref (u 0)), (1, .int x1), (2, .int x2), (3, .int x3), (4, .int x4)] → q_X13_makeTurned_a K k 2 x1 x2 x3 x4 x5 z = some z1 → W p l e ({ frames := 1, cells := 0, slots := 0, locals := 25 } : Room) s m args below meth c H locs 0 0 QQ (F0 m 22 ls [])) ∧ (∀ (x1 : Int32) (x2 : Int32) (x3 : Int32) (x4 : Int32) (x5 : Int32) (z : ow_MS) (H : Heap) (locs : List Loc) (ls : Array Slot), tw_M D vwCl mX_a q s.heap u z H locs → lv_has ls 6 [(0, .ref (u 0)), (1, .int x1), (2, .int x2), (3, .int x3), (4, .int x4), (5, .int x5)] → q_X13_makeTurned_a K k 3 x1 x2 x3 x4 x5 z = some z1 → W p l e ({ frames := 1, cells := 0, slots := 0, locals := 25 } : Room) s m args below meth c H locs 0 0 QQ (F0 m 31 ls [])) ∧ (∀ (x1 : Int32) (x2 : Int32) (x3 : Int32) (x4 : Int32) (x5 : Int32) (z : ow_MS) (H : Heap) (locs : List Loc) (ls : Array Slot), tw_M D vwCl mX_a q s.heap u z H locs → lv_has ls 6 [(0, .ref (u 0)), (1, .int x1), (2, .int x2), (3, .int x3), (4, .int x4), (5, .int x5)] → q_X13_makeTurned_a K k 4 x1 x2 x3 x4 x5 z = some z1 → W p l e ({ frames := 1, cells := 0, slots := 0, locals := 25 } : Room) s m args below meth c H locs 0 0 QQ (F0 m 66 ls [])) ∧ (∀ (x1 : Int32) (x2 : Int32) (x3 : Int32) (x4 : Int32) (x5 : Int32) (z : ow_MS) (H : Heap) (locs : List Loc) (ls : Array Slot), tw_M D vwCl mX_a q s.heap u z H locs → lv_has ls 6 [(0, .ref (u 0)), (1, .int x1), (2, .int x2), (3, .int x3), (4, .int x4)] → q_X13_makeTurned_a K k 5 x1 x2 x3 x4 x5 z = some z1 → W p l e ({ frames := 1, cells := 0, slots := 0, locals := 25 } : Room) s m args below meth c H locs 0 0 QQ (F0 m 96 ls [])) := by
    intro k
    induction k with
    | zero => exact ⟨fun _ _ _ _ _ _ _ _ _  _ _ hq => tw_no hq, fun _ _ _ _ _ _ _ _ _  _ _ hq => tw_no hq, fun _ _ _ _ _ _ _ _ _  _ _ hq => tw_no hq, fun _ _ _ _ _ _ _ _ _  _ _ hq => tw_no hq, fun _ _ _ _ _ _ _ _ _  _ _ hq => tw_no hq, fun _ _ _ _ _ _ _ _ _  _ _ hq => tw_no hq⟩
    | succ k ih =>
      obtain ⟨ih_0, ih_1, ih_2, ih_3, ih_4, ih_5⟩ := ih
      refine ⟨?_, ?_, ?_, ?_, ?_, ?_⟩
      · intro x1 x2 x3 x4 x5 z H locs ls  hM hl hq
        have hq : qm_X13_makeTurned_0_a K (q_X13_makeTurned_a K k) x1 x2 x3 x4 x5 z = some z1 := hq
        unfold qm_X13_makeTurned_0_a at hq
        refine lv_iconst (v := 0) hx hb dmX13_makeTurned_0_a (by decide) ?_
        refine lv_istore_n (lv' := [(2, .int 0), (0, .ref (u 0)), (1, .int x1)]) hx hb dmX13_makeTurned_1_a rfl hl (by decide) rfl (fun ls hl => ?_)
        exact ih_1 x1 0 0 0 0 z H locs ls hM (lv_sub hl [1, 2, 0] rfl) hq
      · intro x1 x2 x3 x4 x5 z H locs ls  hM hl hq
        have hq : qm_X13_makeTurned_1_a K (q_X13_makeTurned_a K k) x1 x2 x3 x4 x5 z = some z1 := hq
        unfold qm_X13_makeTurned_1_a at hq
        refine lv_iload_n hx hb dmX13_makeTurned_2_a rfl (lv_at hl 2 rfl) ?_
        refine lv_aload_n hx hb dmX13_makeTurned_3_a rfl (lv_at hl 0 rfl) ?_
        refine mg13_329_a hx hb hT hown hK hM dmX13_makeTurned_4_a ?_
        refine lv_iload_n hx hb dmX13_makeTurned_7_a rfl (lv_at hl 1 rfl) ?_
        refine tw_iald mX_ok_a hx hb hK hM mr_97_a hq dmX13_makeTurned_8_a (fun v1 hq => ?_)
        refine lv_icmp_ge (tgt := 155) hx hb dmX13_makeTurned_9_a (by decide) (fun hc => ?_) (fun hc => ?_)
        · have hq := tw_it hq hc
          exact mw_vret_a hx hb hr hlocks hM hq hQQ dmX13_makeTurned_155_a
        · have hq := tw_if hq hc
          refine lv_bipush (v := 120) hx hb dmX13_makeTurned_12_a (by decide) ?_
          refine lv_iload_n hx hb dmX13_makeTurned_14_a rfl (lv_at hl 1 rfl) ?_
          refine lv_imul hx hb dmX13_makeTurned_15_a ?_
          refine lv_iload_n hx hb dmX13_makeTurned_16_a rfl (lv_at hl 2 rfl) ?_
          refine lv_iadd hx hb dmX13_makeTurned_17_a ?_
          refine lv_istore_n (lv' := [(3, .int ((120 * x1) + x2)), (0, .ref (u 0)), (1, .int x1), (2, .int x2)]) hx hb dmX13_makeTurned_18_a rfl hl (by decide) rfl (fun ls hl => ?_)
          refine lv_iconst (v := 0) hx hb dmX13_makeTurned_19_a (by decide) ?_
          refine lv_istore (lv' := [(4, .int 0), (3, .int ((120 * x1) + x2)), (0, .ref (u 0)), (1, .int x1), (2, .int x2)]) hx hb dmX13_makeTurned_20_a hl (by decide) rfl (fun ls hl => ?_)
          exact ih_2 x1 x2 ((120 * x1) + x2) 0 0 z H locs ls hM (lv_sub hl [2, 3, 4, 1, 0] rfl) hq
      · intro x1 x2 x3 x4 x5 z H locs ls  hM hl hq
        have hq : qm_X13_makeTurned_2_a K (q_X13_makeTurned_a K k) x1 x2 x3 x4 x5 z = some z1 := hq
        unfold qm_X13_makeTurned_2_a at hq
        refine lv_iload hx hb dmX13_makeTurned_22_a (lv_at hl 4 rfl) ?_
        refine lv_iload_n hx hb dmX13_makeTurned_24_a rfl (lv_at hl 1 rfl) ?_
        refine lv_icmp_ge (tgt := 78) hx hb dmX13_makeTurned_25_a (by decide) (fun hc => ?_) (fun hc => ?_)
        · have hq := tw_it hq hc
          refine lv_aload_n hx hb dmX13_makeTurned_78_a rfl (lv_at hl 0 rfl) ?_
          refine mg13_344_a hx hb hT hown hK hM dmX13_makeTurned_79_a ?_
          refine lv_iload_n hx hb dmX13_makeTurned_82_a rfl (lv_at hl 3 rfl) ?_
          refine lv_aload_n hx hb dmX13_makeTurned_83_a rfl (lv_at hl 0 rfl) ?_
          refine lv_iload_n hx hb dmX13_makeTurned_84_a rfl (lv_at hl 1 rfl) ?_
          refine lv_aload_n hx hb dmX13_makeTurned_85_a rfl (lv_at hl 0 rfl) ?_
          refine mg13_356_a hx hb hT hown hK hM dmX13_makeTurned_86_a ?_
          obtain ⟨v3, z2, hcq, hq⟩ := tw_cl1 hq
          refine tw_cali hM (va_runV (As := [.int x1, .ref (u 106)]) (rest := [.int x3, .ref (u 102)]) ⟨hx, hb, hml, hown, hts⟩ (km_X13_find_a l D q u hU K x1 106 mr_106_a z z2 v3 hcq) (cwV 2 hts (tw_gV wM_good_a wq_19_a wq_20_a wq_21_a wq_22_a wq_2_a) rfl rfl rfl cd_X13_find_a ⟨(Nat.le_of_ble_eq_true rfl), (Nat.le_of_ble_eq_true rfl)⟩) (mw_preV_a hK hN hM mo_0_a rfl) rfl rfl hl.1 rfl (lv_room (Nat.le_of_ble_eq_true rfl)) dmX13_makeTurned_89_a ⟨(Nat.le_of_ble_eq_true rfl), (Nat.le_of_ble_eq_true rfl)⟩) (fun H locs hM => ?_)
          refine tw_iast mX_ok_a hU hx hb hK hM mr_102_a hq dmX13_makeTurned_92_a (fun z4 H locs hM hq => ?_)
          refine lv_iconst (v := 0) hx hb dmX13_makeTurned_93_a (by decide) ?_
          refine lv_istore (lv' := [(4, .int 0), (0, .ref (u 0)), (1, .int x1), (2, .int x2), (3, .int x3)]) hx hb dmX13_makeTurned_94_a hl (by decide) rfl (fun ls hl => ?_)
          exact ih_5 x1 x2 x3 0 0 z4 H locs ls hM (lv_sub hl [1, 2, 3, 4, 0] rfl) hq
        · have hq := tw_if hq hc
          refine lv_iconst (v := 0) hx hb dmX13_makeTurned_28_a (by decide) ?_
          refine lv_istore (lv' := [(5, .int 0), (0, .ref (u 0)), (1, .int x1), (2, .int x2), (3, .int x3), (4, .int x4)]) hx hb dmX13_makeTurned_29_a hl (by decide) rfl (fun ls hl => ?_)
          exact ih_3 x1 x2 x3 x4 0 z H locs ls hM (lv_sub hl [1, 2, 3, 4, 5, 0] rfl) hq
      · intro x1 x2 x3 x4 x5 z H locs ls  hM hl hq
        have hq : qm_X13_makeTurned_3_a K (q_X13_makeTurned_a K k) x1 x2 x3 x4 x5 z = some z1 := hq
        unfold qm_X13_makeTurned_3_a at hq
        refine lv_iload hx hb dmX13_makeTurned_31_a (lv_at hl 5 rfl) ?_
        refine lv_iload_n hx hb dmX13_makeTurned_33_a rfl (lv_at hl 1 rfl) ?_
        refine lv_icmp_ge (tgt := 72) hx hb dmX13_makeTurned_34_a (by decide) (fun hc => ?_) (fun hc => ?_)
        · have hq := tw_it hq hc
          refine lv_iinc (v := (x4 + 1)) (lv' := [(4, .int (x4 + 1)), (0, .ref (u 0)), (1, .int x1), (2, .int x2), (3, .int x3), (5, .int x5)]) hx hb dmX13_makeTurned_72_a hl (k := 4) rfl rfl (by decide) rfl (fun ls hl => ?_)
          refine lv_goto (tgt := 22) hx hb dmX13_makeTurned_75_a (by decide) ?_
          exact ih_2 x1 x2 x3 (x4 + 1) 0 z H locs ls hM (lv_sub hl [1, 2, 3, 4, 0] rfl) hq
        · have hq := tw_if hq hc
          refine lv_aload_n hx hb dmX13_makeTurned_37_a rfl (lv_at hl 0 rfl) ?_
          refine mg13_332_a hx hb hT hown hK hM dmX13_makeTurned_38_a ?_
          refine lv_iconst (v := 5) hx hb dmX13_makeTurned_41_a (by decide) ?_
          refine lv_iload_n hx hb dmX13_makeTurned_42_a rfl (lv_at hl 3 rfl) ?_
          refine lv_imul hx hb dmX13_makeTurned_43_a ?_
          refine lv_iload hx hb dmX13_makeTurned_44_a (lv_at hl 5 rfl) ?_
          refine lv_iadd hx hb dmX13_makeTurned_46_a ?_
          refine tw_iald mX_ok_a hx hb hK hM mr_98_a hq dmX13_makeTurned_47_a (fun v5 hq => ?_)
          refine lv_iload_n hx hb dmX13_makeTurned_48_a rfl (lv_at hl 1 rfl) ?_
          refine lv_iconst (v := 1) hx hb dmX13_makeTurned_49_a (by decide) ?_
          refine lv_isub hx hb dmX13_makeTurned_50_a ?_
          refine lv_iload hx hb dmX13_makeTurned_51_a (lv_at hl 4 rfl) ?_
          refine lv_isub hx hb dmX13_makeTurned_53_a ?_
          refine lv_icmp_ne (tgt := 66) hx hb dmX13_makeTurned_54_a (by decide) (fun hc => ?_) (fun hc => ?_)
          · have hq := tw_if hq hc
            exact ih_4 x1 x2 x3 x4 x5 z H locs ls hM (lv_sub hl [0, 1, 2, 3, 4, 5] rfl) hq
          · have hq := tw_it hq hc
            refine lv_aload_n hx hb dmX13_makeTurned_57_a rfl (lv_at hl 0 rfl) ?_
            refine mg13_356_a hx hb hT hown hK hM dmX13_makeTurned_58_a ?_
            refine lv_iload hx hb dmX13_makeTurned_61_a (lv_at hl 4 rfl) ?_
            refine lv_iload hx hb dmX13_makeTurned_63_a (lv_at hl 5 rfl) ?_
            refine tw_iast mX_ok_a hU hx hb hK hM mr_106_a hq dmX13_makeTurned_65_a (fun z6 H locs hM hq => ?_)
            exact ih_4 x1 x2 x3 x4 x5 z6 H locs ls hM (lv_sub hl [0, 1, 2, 3, 4, 5] rfl) hq
      · intro x1 x2 x3 x4 x5 z H locs ls  hM hl hq
        have hq : qm_X13_makeTurned_4_a K (q_X13_makeTurned_a K k) x1 x2 x3 x4 x5 z = some z1 := hq
        unfold qm_X13_makeTurned_4_a at hq
        refine lv_iinc (v := (x5 + 1)) (lv' := [(5, .int (x5 + 1)), (0, .ref (u 0)), (1, .int x1), (2, .int x2), (3, .int x3), (4, .int x4)]) hx hb dmX13_makeTurned_66_a hl (k := 5) rfl rfl (by decide) rfl (fun ls hl => ?_)
        refine lv_goto (tgt := 31) hx hb dmX13_makeTurned_69_a (by decide) ?_
        exact ih_3 x1 x2 x3 x4 (x5 + 1) z H locs ls hM (lv_sub hl [1, 2, 3, 4, 5, 0] rfl) hq
      · intro x1 x2 x3 x4 x5 z H locs ls  hM hl hq
        have hq : qm_X13_makeTurned_5_a K (q_X13_makeTurned_a K k) x1 x2 x3 x4 x5 z = some z1 := hq
        unfold qm_X13_makeTurned_5_a at hq
        refine lv_iload hx hb dmX13_makeTurned_96_a (lv_at hl 4 rfl) ?_
        refine lv_iload_n hx hb dmX13_makeTurned_98_a rfl (lv_at hl 1 rfl) ?_
        refine lv_icmp_ge (tgt := 134) hx hb dmX13_makeTurned_99_a (by decide) (fun hc => ?_) (fun hc => ?_)
        · have hq := tw_it hq hc
          refine lv_aload_n hx hb dmX13_makeTurned_134_a rfl (lv_at hl 0 rfl) ?_
          refine mg13_347_a hx hb hT hown hK hM dmX13_makeTurned_135_a ?_
          refine lv_iload_n hx hb dmX13_makeTurned_138_a rfl (lv_at hl 3 rfl) ?_
          refine lv_aload_n hx hb dmX13_makeTurned_139_a rfl (lv_at hl 0 rfl) ?_
          refine lv_iload_n hx hb dmX13_makeTurned_140_a rfl (lv_at hl 1 rfl) ?_
          refine lv_aload_n hx hb dmX13_makeTurned_141_a rfl (lv_at hl 0 rfl) ?_
          refine mg13_356_a hx hb hT hown hK hM dmX13_makeTurned_142_a ?_
          obtain ⟨v8, z7, hcq, hq⟩ := tw_cl1 hq
          refine tw_cali hM (va_runV (As := [.int x1, .ref (u 106)]) (rest := [.int x3, .ref (u 103)]) ⟨hx, hb, hml, hown, hts⟩ (km_X13_find_a l D q u hU K x1 106 mr_106_a z z7 v8 hcq) (cwV 2 hts (tw_gV wM_good_a wq_19_a wq_20_a wq_21_a wq_22_a wq_2_a) rfl rfl rfl cd_X13_find_a ⟨(Nat.le_of_ble_eq_true rfl), (Nat.le_of_ble_eq_true rfl)⟩) (mw_preV_a hK hN hM mo_0_a rfl) rfl rfl hl.1 rfl (lv_room (Nat.le_of_ble_eq_true rfl)) dmX13_makeTurned_145_a ⟨(Nat.le_of_ble_eq_true rfl), (Nat.le_of_ble_eq_true rfl)⟩) (fun H locs hM => ?_)
          refine tw_iast mX_ok_a hU hx hb hK hM mr_103_a hq dmX13_makeTurned_148_a (fun z9 H locs hM hq => ?_)
          refine lv_iinc (v := (x2 + 1)) (lv' := [(2, .int (x2 + 1)), (0, .ref (u 0)), (1, .int x1), (3, .int x3), (4, .int x4)]) hx hb dmX13_makeTurned_149_a hl (k := 2) rfl rfl (by decide) rfl (fun ls hl => ?_)
          refine lv_goto (tgt := 2) hx hb dmX13_makeTurned_152_a (by decide) ?_
          exact ih_1 x1 (x2 + 1) 0 0 0 z9 H locs ls hM (lv_sub hl [1, 2, 0] rfl) hq
        · have hq := tw_if hq hc
          refine lv_aload_n hx hb dmX13_makeTurned_102_a rfl (lv_at hl 0 rfl) ?_
          refine mg13_356_a hx hb hT hown hK hM dmX13_makeTurned_103_a ?_
          refine lv_iload hx hb dmX13_makeTurned_106_a (lv_at hl 4 rfl) ?_
          refine lv_iload_n hx hb dmX13_makeTurned_108_a rfl (lv_at hl 1 rfl) ?_
          refine lv_iconst (v := 1) hx hb dmX13_makeTurned_109_a (by decide) ?_
          refine lv_isub hx hb dmX13_makeTurned_110_a ?_
          refine lv_aload_n hx hb dmX13_makeTurned_111_a rfl (lv_at hl 0 rfl) ?_
          refine mg13_332_a hx hb hT hown hK hM dmX13_makeTurned_112_a ?_
          refine lv_iconst (v := 5) hx hb dmX13_makeTurned_115_a (by decide) ?_
          refine lv_iload_n hx hb dmX13_makeTurned_116_a rfl (lv_at hl 3 rfl) ?_
          refine lv_imul hx hb dmX13_makeTurned_117_a ?_
          refine lv_iload_n hx hb dmX13_makeTurned_118_a rfl (lv_at hl 1 rfl) ?_
          refine lv_iadd hx hb dmX13_makeTurned_119_a ?_
          refine lv_iconst (v := 1) hx hb dmX13_makeTurned_120_a (by decide) ?_
          refine lv_isub hx hb dmX13_makeTurned_121_a ?_
          refine lv_iload hx hb dmX13_makeTurned_122_a (lv_at hl 4 rfl) ?_
          refine lv_isub hx hb dmX13_makeTurned_124_a ?_
          refine tw_iald mX_ok_a hx hb hK hM mr_98_a hq dmX13_makeTurned_125_a (fun v10 hq => ?_)
          refine lv_isub hx hb dmX13_makeTurned_126_a ?_
          refine tw_iast mX_ok_a hU hx hb hK hM mr_106_a hq dmX13_makeTurned_127_a (fun z11 H locs hM hq => ?_)
          refine lv_iinc (v := (x4 + 1)) (lv' := [(4, .int (x4 + 1)), (0, .ref (u 0)), (1, .int x1), (2, .int x2), (3, .int x3)]) hx hb dmX13_makeTurned_128_a hl (k := 4) rfl rfl (by decide) rfl (fun ls hl => ?_)
          refine lv_goto (tgt := 96) hx hb dmX13_makeTurned_131_a (by decide) ?_
          exact ih_5 x1 x2 x3 (x4 + 1) 0 z11 H locs ls hM (lv_sub hl [1, 2, 3, 4, 0] rfl) hq
  exact (key K).1 x1 0 0 0 0 z s.heap [] ls  hM (lv_sub hl [0, 1] rfl) hq
theorem dmX13_makeSimples_0_a : decode cX13_makeSimples 0 = .ok (.iconst 2, 1) := dw_at cX13_makeSimples_k0 (p := 0) rfl (by decide +kernel)
theorem dmX13_makeSimples_1_a : decode cX13_makeSimples 1 = .ok (.istore_n 1, 1) := dw_at cX13_makeSimples_k0 (p := 1) rfl (by decide +kernel)
theorem dmX13_makeSimples_2_a : decode cX13_makeSimples 2 = .ok (.iload_n 1, 1) := dw_at cX13_makeSimples_k0 (p := 2) rfl (by decide +kernel)
theorem dmX13_makeSimples_3_a : decode cX13_makeSimples 3 = .ok (.iconst 5, 1) := dw_at cX13_makeSimples_k0 (p := 3) rfl (by decide +kernel)
theorem dmX13_makeSimples_4_a : decode cX13_makeSimples 4 = .ok (.if_icmp .gt 421, 3) := dw_at cX13_makeSimples_k0 (p := 4) rfl (by decide +kernel)
theorem dmX13_makeSimples_7_a : decode cX13_makeSimples 7 = .ok (.iconst 0, 1) := dw_at cX13_makeSimples_k0 (p := 7) rfl (by decide +kernel)
theorem dmX13_makeSimples_8_a : decode cX13_makeSimples 8 = .ok (.istore_n 2, 1) := dw_at cX13_makeSimples_k0 (p := 8) rfl (by decide +kernel)
theorem dmX13_makeSimples_9_a : decode cX13_makeSimples 9 = .ok (.iload_n 2, 1) := dw_at cX13_makeSimples_k0 (p := 9) rfl (by decide +kernel)
theorem dmX13_makeSimples_10_a : decode cX13_makeSimples 10 = .ok (.iload_n 1, 1) := dw_at cX13_makeSimples_k0 (p := 10) rfl (by decide +kernel)
theorem dmX13_makeSimples_11_a : decode cX13_makeSimples 11 = .ok (.if_icmp .ge 22, 3) := dw_at cX13_makeSimples_k0 (p := 11) rfl (by decide +kernel)
theorem dmX13_makeSimples_14_a : decode cX13_makeSimples 14 = .ok (.aload_n 0, 1) := dw_at cX13_makeSimples_k0 (p := 14) rfl (by decide +kernel)
theorem dmX13_makeSimples_15_a : decode cX13_makeSimples 15 = .ok (.getfield 332, 3) := dw_at cX13_makeSimples_k0 (p := 15) rfl (by decide +kernel)
theorem dmX13_makeSimples_18_a : decode cX13_makeSimples 18 = .ok (.sipush 600, 3) := dw_at cX13_makeSimples_k0 (p := 18) rfl (by decide +kernel)
theorem dmX13_makeSimples_21_a : decode cX13_makeSimples 21 = .ok (.iload_n 1, 1) := dw_at cX13_makeSimples_k0 (p := 21) rfl (by decide +kernel)
theorem dmX13_makeSimples_22_a : decode cX13_makeSimples 22 = .ok (.imul, 1) := dw_at cX13_makeSimples_k0 (p := 22) rfl (by decide +kernel)
theorem dmX13_makeSimples_23_a : decode cX13_makeSimples 23 = .ok (.iload_n 2, 1) := dw_at cX13_makeSimples_k0 (p := 23) rfl (by decide +kernel)
theorem dmX13_makeSimples_24_a : decode cX13_makeSimples 24 = .ok (.iadd, 1) := dw_at cX13_makeSimples_k1 (p := 0) rfl (by decide +kernel)
theorem dmX13_makeSimples_25_a : decode cX13_makeSimples 25 = .ok (.iload_n 2, 1) := dw_at cX13_makeSimples_k1 (p := 1) rfl (by decide +kernel)
theorem dmX13_makeSimples_26_a : decode cX13_makeSimples 26 = .ok (.iastore, 1) := dw_at cX13_makeSimples_k1 (p := 2) rfl (by decide +kernel)
theorem dmX13_makeSimples_27_a : decode cX13_makeSimples 27 = .ok (.iinc 2 1, 3) := dw_at cX13_makeSimples_k1 (p := 3) rfl (by decide +kernel)
theorem dmX13_makeSimples_30_a : decode cX13_makeSimples 30 = .ok (.goto (-21), 3) := dw_at cX13_makeSimples_k1 (p := 6) rfl (by decide +kernel)
theorem dmX13_makeSimples_33_a : decode cX13_makeSimples 33 = .ok (.aload_n 0, 1) := dw_at cX13_makeSimples_k1 (p := 9) rfl (by decide +kernel)
theorem dmX13_makeSimples_34_a : decode cX13_makeSimples 34 = .ok (.getfield 329, 3) := dw_at cX13_makeSimples_k1 (p := 10) rfl (by decide +kernel)
theorem dmX13_makeSimples_37_a : decode cX13_makeSimples 37 = .ok (.iload_n 1, 1) := dw_at cX13_makeSimples_k1 (p := 13) rfl (by decide +kernel)
theorem dmX13_makeSimples_38_a : decode cX13_makeSimples 38 = .ok (.iconst 1, 1) := dw_at cX13_makeSimples_k1 (p := 14) rfl (by decide +kernel)
theorem dmX13_makeSimples_39_a : decode cX13_makeSimples 39 = .ok (.iastore, 1) := dw_at cX13_makeSimples_k1 (p := 15) rfl (by decide +kernel)
theorem dmX13_makeSimples_40_a : decode cX13_makeSimples 40 = .ok (.iconst 0, 1) := dw_at cX13_makeSimples_k1 (p := 16) rfl (by decide +kernel)
theorem dmX13_makeSimples_41_a : decode cX13_makeSimples 41 = .ok (.istore_n 2, 1) := dw_at cX13_makeSimples_k1 (p := 17) rfl (by decide +kernel)
theorem dmX13_makeSimples_42_a : decode cX13_makeSimples 42 = .ok (.iload_n 2, 1) := dw_at cX13_makeSimples_k1 (p := 18) rfl (by decide +kernel)
theorem dmX13_makeSimples_43_a : decode cX13_makeSimples 43 = .ok (.aload_n 0, 1) := dw_at cX13_makeSimples_k1 (p := 19) rfl (by decide +kernel)
theorem dmX13_makeSimples_44_a : decode cX13_makeSimples 44 = .ok (.getfield 329, 3) := dw_at cX13_makeSimples_k1 (p := 20) rfl (by decide +kernel)
theorem dmX13_makeSimples_47_a : decode cX13_makeSimples 47 = .ok (.iload_n 1, 1) := dw_at cX13_makeSimples_k1 (p := 23) rfl (by decide +kernel)
theorem dmX13_makeSimples_48_a : decode cX13_makeSimples 48 = .ok (.iaload, 1) := dw_at cX13_makeSimples_k2 (p := 0) rfl (by decide +kernel)
theorem dmX13_makeSimples_49_a : decode cX13_makeSimples 49 = .ok (.if_icmp .ge 325, 3) := dw_at cX13_makeSimples_k2 (p := 1) rfl (by decide +kernel)
theorem dmX13_makeSimples_52_a : decode cX13_makeSimples 52 = .ok (.bipush 120, 2) := dw_at cX13_makeSimples_k2 (p := 4) rfl (by decide +kernel)
theorem dmX13_makeSimples_54_a : decode cX13_makeSimples 54 = .ok (.iload_n 1, 1) := dw_at cX13_makeSimples_k2 (p := 6) rfl (by decide +kernel)
theorem dmX13_makeSimples_55_a : decode cX13_makeSimples 55 = .ok (.imul, 1) := dw_at cX13_makeSimples_k2 (p := 7) rfl (by decide +kernel)
theorem dmX13_makeSimples_56_a : decode cX13_makeSimples 56 = .ok (.iload_n 2, 1) := dw_at cX13_makeSimples_k2 (p := 8) rfl (by decide +kernel)
theorem dmX13_makeSimples_57_a : decode cX13_makeSimples 57 = .ok (.iadd, 1) := dw_at cX13_makeSimples_k2 (p := 9) rfl (by decide +kernel)
theorem dmX13_makeSimples_58_a : decode cX13_makeSimples 58 = .ok (.istore_n 3, 1) := dw_at cX13_makeSimples_k2 (p := 10) rfl (by decide +kernel)
theorem dmX13_makeSimples_59_a : decode cX13_makeSimples 59 = .ok (.iconst 0, 1) := dw_at cX13_makeSimples_k2 (p := 11) rfl (by decide +kernel)
theorem dmX13_makeSimples_60_a : decode cX13_makeSimples 60 = .ok (.istore 4, 2) := dw_at cX13_makeSimples_k2 (p := 12) rfl (by decide +kernel)
theorem dmX13_makeSimples_62_a : decode cX13_makeSimples 62 = .ok (.iload 4, 2) := dw_at cX13_makeSimples_k2 (p := 14) rfl (by decide +kernel)
theorem dmX13_makeSimples_64_a : decode cX13_makeSimples 64 = .ok (.iload_n 1, 1) := dw_at cX13_makeSimples_k2 (p := 16) rfl (by decide +kernel)
theorem dmX13_makeSimples_65_a : decode cX13_makeSimples 65 = .ok (.iconst 1, 1) := dw_at cX13_makeSimples_k2 (p := 17) rfl (by decide +kernel)
theorem dmX13_makeSimples_66_a : decode cX13_makeSimples 66 = .ok (.isub, 1) := dw_at cX13_makeSimples_k2 (p := 18) rfl (by decide +kernel)
theorem dmX13_makeSimples_67_a : decode cX13_makeSimples 67 = .ok (.if_icmp .ge 301, 3) := dw_at cX13_makeSimples_k2 (p := 19) rfl (by decide +kernel)
theorem dmX13_makeSimples_70_a : decode cX13_makeSimples 70 = .ok (.iconst 0, 1) := dw_at cX13_makeSimples_k2 (p := 22) rfl (by decide +kernel)
theorem dmX13_makeSimples_71_a : decode cX13_makeSimples 71 = .ok (.istore 5, 2) := dw_at cX13_makeSimples_k2 (p := 23) rfl (by decide +kernel)
theorem dmX13_makeSimples_73_a : decode cX13_makeSimples 73 = .ok (.iconst 0, 1) := dw_at cX13_makeSimples_k3 (p := 0) rfl (by decide +kernel)
theorem dmX13_makeSimples_74_a : decode cX13_makeSimples 74 = .ok (.istore 6, 2) := dw_at cX13_makeSimples_k3 (p := 1) rfl (by decide +kernel)
theorem dmX13_makeSimples_76_a : decode cX13_makeSimples 76 = .ok (.iconst 0, 1) := dw_at cX13_makeSimples_k3 (p := 3) rfl (by decide +kernel)
theorem dmX13_makeSimples_77_a : decode cX13_makeSimples 77 = .ok (.istore 7, 2) := dw_at cX13_makeSimples_k3 (p := 4) rfl (by decide +kernel)
theorem dmX13_makeSimples_79_a : decode cX13_makeSimples 79 = .ok (.iload 7, 2) := dw_at cX13_makeSimples_k3 (p := 6) rfl (by decide +kernel)
theorem dmX13_makeSimples_81_a : decode cX13_makeSimples 81 = .ok (.iload_n 1, 1) := dw_at cX13_makeSimples_k3 (p := 8) rfl (by decide +kernel)
theorem dmX13_makeSimples_82_a : decode cX13_makeSimples 82 = .ok (.if_icmp .ge 71, 3) := dw_at cX13_makeSimples_k3 (p := 9) rfl (by decide +kernel)
theorem dmX13_makeSimples_85_a : decode cX13_makeSimples 85 = .ok (.aload_n 0, 1) := dw_at cX13_makeSimples_k3 (p := 12) rfl (by decide +kernel)
theorem dmX13_makeSimples_86_a : decode cX13_makeSimples 86 = .ok (.getfield 356, 3) := dw_at cX13_makeSimples_k3 (p := 13) rfl (by decide +kernel)
theorem dmX13_makeSimples_89_a : decode cX13_makeSimples 89 = .ok (.iload 7, 2) := dw_at cX13_makeSimples_k3 (p := 16) rfl (by decide +kernel)
theorem dmX13_makeSimples_91_a : decode cX13_makeSimples 91 = .ok (.aload_n 0, 1) := dw_at cX13_makeSimples_k3 (p := 18) rfl (by decide +kernel)
theorem dmX13_makeSimples_92_a : decode cX13_makeSimples 92 = .ok (.getfield 332, 3) := dw_at cX13_makeSimples_k3 (p := 19) rfl (by decide +kernel)
theorem dmX13_makeSimples_95_a : decode cX13_makeSimples 95 = .ok (.iconst 5, 1) := dw_at cX13_makeSimples_k3 (p := 22) rfl (by decide +kernel)
theorem dmX13_makeSimples_96_a : decode cX13_makeSimples 96 = .ok (.iload_n 3, 1) := dw_at cX13_makeSimples_k3 (p := 23) rfl (by decide +kernel)
theorem dmX13_makeSimples_97_a : decode cX13_makeSimples 97 = .ok (.imul, 1) := dw_at cX13_makeSimples_k4 (p := 0) rfl (by decide +kernel)
theorem dmX13_makeSimples_98_a : decode cX13_makeSimples 98 = .ok (.iload 7, 2) := dw_at cX13_makeSimples_k4 (p := 1) rfl (by decide +kernel)
theorem dmX13_makeSimples_100_a : decode cX13_makeSimples 100 = .ok (.iadd, 1) := dw_at cX13_makeSimples_k4 (p := 3) rfl (by decide +kernel)
theorem dmX13_makeSimples_101_a : decode cX13_makeSimples 101 = .ok (.iaload, 1) := dw_at cX13_makeSimples_k4 (p := 4) rfl (by decide +kernel)
theorem dmX13_makeSimples_102_a : decode cX13_makeSimples 102 = .ok (.iastore, 1) := dw_at cX13_makeSimples_k4 (p := 5) rfl (by decide +kernel)
theorem dmX13_makeSimples_103_a : decode cX13_makeSimples 103 = .ok (.aload_n 0, 1) := dw_at cX13_makeSimples_k4 (p := 6) rfl (by decide +kernel)
theorem dmX13_makeSimples_104_a : decode cX13_makeSimples 104 = .ok (.getfield 356, 3) := dw_at cX13_makeSimples_k4 (p := 7) rfl (by decide +kernel)
theorem dmX13_makeSimples_107_a : decode cX13_makeSimples 107 = .ok (.iload 7, 2) := dw_at cX13_makeSimples_k4 (p := 10) rfl (by decide +kernel)
theorem dmX13_makeSimples_109_a : decode cX13_makeSimples 109 = .ok (.iaload, 1) := dw_at cX13_makeSimples_k4 (p := 12) rfl (by decide +kernel)
theorem dmX13_makeSimples_110_a : decode cX13_makeSimples 110 = .ok (.iload 4, 2) := dw_at cX13_makeSimples_k4 (p := 13) rfl (by decide +kernel)
theorem dmX13_makeSimples_112_a : decode cX13_makeSimples 112 = .ok (.if_icmp .ne 8, 3) := dw_at cX13_makeSimples_k4 (p := 15) rfl (by decide +kernel)
theorem dmX13_makeSimples_115_a : decode cX13_makeSimples 115 = .ok (.iload 7, 2) := dw_at cX13_makeSimples_k4 (p := 18) rfl (by decide +kernel)
theorem dmX13_makeSimples_117_a : decode cX13_makeSimples 117 = .ok (.goto 5, 3) := dw_at cX13_makeSimples_k4 (p := 20) rfl (by decide +kernel)
theorem dmX13_makeSimples_120_a : decode cX13_makeSimples 120 = .ok (.iload 5, 2) := dw_at cX13_makeSimples_k4 (p := 23) rfl (by decide +kernel)
theorem dmX13_makeSimples_122_a : decode cX13_makeSimples 122 = .ok (.istore 5, 2) := dw_at cX13_makeSimples_k5 (p := 0) rfl (by decide +kernel)
theorem dmX13_makeSimples_124_a : decode cX13_makeSimples 124 = .ok (.aload_n 0, 1) := dw_at cX13_makeSimples_k5 (p := 2) rfl (by decide +kernel)
theorem dmX13_makeSimples_125_a : decode cX13_makeSimples 125 = .ok (.getfield 356, 3) := dw_at cX13_makeSimples_k5 (p := 3) rfl (by decide +kernel)
theorem dmX13_makeSimples_128_a : decode cX13_makeSimples 128 = .ok (.iload 7, 2) := dw_at cX13_makeSimples_k5 (p := 6) rfl (by decide +kernel)
theorem dmX13_makeSimples_130_a : decode cX13_makeSimples 130 = .ok (.iaload, 1) := dw_at cX13_makeSimples_k5 (p := 8) rfl (by decide +kernel)
theorem dmX13_makeSimples_131_a : decode cX13_makeSimples 131 = .ok (.iload 4, 2) := dw_at cX13_makeSimples_k5 (p := 9) rfl (by decide +kernel)
theorem dmX13_makeSimples_133_a : decode cX13_makeSimples 133 = .ok (.iconst 1, 1) := dw_at cX13_makeSimples_k5 (p := 11) rfl (by decide +kernel)
theorem dmX13_makeSimples_134_a : decode cX13_makeSimples 134 = .ok (.iadd, 1) := dw_at cX13_makeSimples_k5 (p := 12) rfl (by decide +kernel)
theorem dmX13_makeSimples_135_a : decode cX13_makeSimples 135 = .ok (.if_icmp .ne 8, 3) := dw_at cX13_makeSimples_k5 (p := 13) rfl (by decide +kernel)
theorem dmX13_makeSimples_138_a : decode cX13_makeSimples 138 = .ok (.iload 7, 2) := dw_at cX13_makeSimples_k5 (p := 16) rfl (by decide +kernel)
theorem dmX13_makeSimples_140_a : decode cX13_makeSimples 140 = .ok (.goto 5, 3) := dw_at cX13_makeSimples_k5 (p := 18) rfl (by decide +kernel)
theorem dmX13_makeSimples_143_a : decode cX13_makeSimples 143 = .ok (.iload 6, 2) := dw_at cX13_makeSimples_k5 (p := 21) rfl (by decide +kernel)
theorem dmX13_makeSimples_145_a : decode cX13_makeSimples 145 = .ok (.istore 6, 2) := dw_at cX13_makeSimples_k5 (p := 23) rfl (by decide +kernel)
theorem dmX13_makeSimples_147_a : decode cX13_makeSimples 147 = .ok (.iinc 7 1, 3) := dw_at cX13_makeSimples_k6 (p := 0) rfl (by decide +kernel)
theorem dmX13_makeSimples_150_a : decode cX13_makeSimples 150 = .ok (.goto (-71), 3) := dw_at cX13_makeSimples_k6 (p := 3) rfl (by decide +kernel)
theorem dmX13_makeSimples_153_a : decode cX13_makeSimples 153 = .ok (.aload_n 0, 1) := dw_at cX13_makeSimples_k6 (p := 6) rfl (by decide +kernel)
theorem dmX13_makeSimples_154_a : decode cX13_makeSimples 154 = .ok (.getfield 341, 3) := dw_at cX13_makeSimples_k6 (p := 7) rfl (by decide +kernel)
theorem dmX13_makeSimples_157_a : decode cX13_makeSimples 157 = .ok (.iconst 4, 1) := dw_at cX13_makeSimples_k6 (p := 10) rfl (by decide +kernel)
theorem dmX13_makeSimples_158_a : decode cX13_makeSimples 158 = .ok (.iload_n 3, 1) := dw_at cX13_makeSimples_k6 (p := 11) rfl (by decide +kernel)
theorem dmX13_makeSimples_159_a : decode cX13_makeSimples 159 = .ok (.imul, 1) := dw_at cX13_makeSimples_k6 (p := 12) rfl (by decide +kernel)
theorem dmX13_makeSimples_160_a : decode cX13_makeSimples 160 = .ok (.iload 4, 2) := dw_at cX13_makeSimples_k6 (p := 13) rfl (by decide +kernel)
theorem dmX13_makeSimples_162_a : decode cX13_makeSimples 162 = .ok (.iadd, 1) := dw_at cX13_makeSimples_k6 (p := 15) rfl (by decide +kernel)
theorem dmX13_makeSimples_163_a : decode cX13_makeSimples 163 = .ok (.iconst (-1), 1) := dw_at cX13_makeSimples_k6 (p := 16) rfl (by decide +kernel)
theorem dmX13_makeSimples_164_a : decode cX13_makeSimples 164 = .ok (.iastore, 1) := dw_at cX13_makeSimples_k6 (p := 17) rfl (by decide +kernel)
theorem dmX13_makeSimples_165_a : decode cX13_makeSimples 165 = .ok (.iload 5, 2) := dw_at cX13_makeSimples_k6 (p := 18) rfl (by decide +kernel)
theorem dmX13_makeSimples_167_a : decode cX13_makeSimples 167 = .ok (.iload 6, 2) := dw_at cX13_makeSimples_k6 (p := 20) rfl (by decide +kernel)
theorem dmX13_makeSimples_169_a : decode cX13_makeSimples 169 = .ok (.if_icmp .ge 193, 3) := dw_at cX13_makeSimples_k6 (p := 22) rfl (by decide +kernel)
theorem dmX13_makeSimples_172_a : decode cX13_makeSimples 172 = .ok (.aload_n 0, 1) := dw_at cX13_makeSimples_k7 (p := 0) rfl (by decide +kernel)
theorem dmX13_makeSimples_173_a : decode cX13_makeSimples 173 = .ok (.getfield 356, 3) := dw_at cX13_makeSimples_k7 (p := 1) rfl (by decide +kernel)
theorem dmX13_makeSimples_176_a : decode cX13_makeSimples 176 = .ok (.iload 5, 2) := dw_at cX13_makeSimples_k7 (p := 4) rfl (by decide +kernel)
theorem dmX13_makeSimples_178_a : decode cX13_makeSimples 178 = .ok (.iload 4, 2) := dw_at cX13_makeSimples_k7 (p := 6) rfl (by decide +kernel)
theorem dmX13_makeSimples_180_a : decode cX13_makeSimples 180 = .ok (.iconst 1, 1) := dw_at cX13_makeSimples_k7 (p := 8) rfl (by decide +kernel)
theorem dmX13_makeSimples_181_a : decode cX13_makeSimples 181 = .ok (.iadd, 1) := dw_at cX13_makeSimples_k7 (p := 9) rfl (by decide +kernel)
theorem dmX13_makeSimples_182_a : decode cX13_makeSimples 182 = .ok (.iastore, 1) := dw_at cX13_makeSimples_k7 (p := 10) rfl (by decide +kernel)
theorem dmX13_makeSimples_183_a : decode cX13_makeSimples 183 = .ok (.aload_n 0, 1) := dw_at cX13_makeSimples_k7 (p := 11) rfl (by decide +kernel)
theorem dmX13_makeSimples_184_a : decode cX13_makeSimples 184 = .ok (.getfield 356, 3) := dw_at cX13_makeSimples_k7 (p := 12) rfl (by decide +kernel)
theorem dmX13_makeSimples_187_a : decode cX13_makeSimples 187 = .ok (.iload 6, 2) := dw_at cX13_makeSimples_k7 (p := 15) rfl (by decide +kernel)
theorem dmX13_makeSimples_189_a : decode cX13_makeSimples 189 = .ok (.iload 4, 2) := dw_at cX13_makeSimples_k7 (p := 17) rfl (by decide +kernel)
theorem dmX13_makeSimples_191_a : decode cX13_makeSimples 191 = .ok (.iastore, 1) := dw_at cX13_makeSimples_k7 (p := 19) rfl (by decide +kernel)
theorem dmX13_makeSimples_192_a : decode cX13_makeSimples 192 = .ok (.aload_n 0, 1) := dw_at cX13_makeSimples_k7 (p := 20) rfl (by decide +kernel)
theorem dmX13_makeSimples_193_a : decode cX13_makeSimples 193 = .ok (.iload_n 1, 1) := dw_at cX13_makeSimples_k7 (p := 21) rfl (by decide +kernel)
theorem dmX13_makeSimples_194_a : decode cX13_makeSimples 194 = .ok (.aload_n 0, 1) := dw_at cX13_makeSimples_k7 (p := 22) rfl (by decide +kernel)
theorem dmX13_makeSimples_195_a : decode cX13_makeSimples 195 = .ok (.getfield 356, 3) := dw_at cX13_makeSimples_k7 (p := 23) rfl (by decide +kernel)
theorem dmX13_makeSimples_198_a : decode cX13_makeSimples 198 = .ok (.invokevirtual 724, 3) := dw_at cX13_makeSimples_k8 (p := 0) rfl (by decide +kernel)
theorem dmX13_makeSimples_201_a : decode cX13_makeSimples 201 = .ok (.istore 7, 2) := dw_at cX13_makeSimples_k8 (p := 3) rfl (by decide +kernel)
theorem dmX13_makeSimples_203_a : decode cX13_makeSimples 203 = .ok (.iload 7, 2) := dw_at cX13_makeSimples_k8 (p := 5) rfl (by decide +kernel)
theorem dmX13_makeSimples_205_a : decode cX13_makeSimples 205 = .ok (.iconst (-1), 1) := dw_at cX13_makeSimples_k8 (p := 7) rfl (by decide +kernel)
theorem dmX13_makeSimples_206_a : decode cX13_makeSimples 206 = .ok (.if_icmp .ne 143, 3) := dw_at cX13_makeSimples_k8 (p := 8) rfl (by decide +kernel)
theorem dmX13_makeSimples_209_a : decode cX13_makeSimples 209 = .ok (.aload_n 0, 1) := dw_at cX13_makeSimples_k8 (p := 11) rfl (by decide +kernel)
theorem dmX13_makeSimples_210_a : decode cX13_makeSimples 210 = .ok (.getfield 329, 3) := dw_at cX13_makeSimples_k8 (p := 12) rfl (by decide +kernel)
theorem dmX13_makeSimples_213_a : decode cX13_makeSimples 213 = .ok (.iload_n 1, 1) := dw_at cX13_makeSimples_k8 (p := 15) rfl (by decide +kernel)
theorem dmX13_makeSimples_214_a : decode cX13_makeSimples 214 = .ok (.iaload, 1) := dw_at cX13_makeSimples_k8 (p := 16) rfl (by decide +kernel)
theorem dmX13_makeSimples_215_a : decode cX13_makeSimples 215 = .ok (.istore 7, 2) := dw_at cX13_makeSimples_k8 (p := 17) rfl (by decide +kernel)
theorem dmX13_makeSimples_217_a : decode cX13_makeSimples 217 = .ok (.bipush 120, 2) := dw_at cX13_makeSimples_k8 (p := 19) rfl (by decide +kernel)
theorem dmX13_makeSimples_219_a : decode cX13_makeSimples 219 = .ok (.iload_n 1, 1) := dw_at cX13_makeSimples_k8 (p := 21) rfl (by decide +kernel)
theorem dmX13_makeSimples_220_a : decode cX13_makeSimples 220 = .ok (.imul, 1) := dw_at cX13_makeSimples_k8 (p := 22) rfl (by decide +kernel)
theorem dmX13_makeSimples_221_a : decode cX13_makeSimples 221 = .ok (.iload 7, 2) := dw_at cX13_makeSimples_k8 (p := 23) rfl (by decide +kernel)
theorem dmX13_makeSimples_223_a : decode cX13_makeSimples 223 = .ok (.iadd, 1) := dw_at cX13_makeSimples_k9 (p := 0) rfl (by decide +kernel)
theorem dmX13_makeSimples_224_a : decode cX13_makeSimples 224 = .ok (.istore 8, 2) := dw_at cX13_makeSimples_k9 (p := 1) rfl (by decide +kernel)
theorem dmX13_makeSimples_226_a : decode cX13_makeSimples 226 = .ok (.iconst 0, 1) := dw_at cX13_makeSimples_k9 (p := 3) rfl (by decide +kernel)
theorem dmX13_makeSimples_227_a : decode cX13_makeSimples 227 = .ok (.istore 9, 2) := dw_at cX13_makeSimples_k9 (p := 4) rfl (by decide +kernel)
theorem dmX13_makeSimples_229_a : decode cX13_makeSimples 229 = .ok (.iload 9, 2) := dw_at cX13_makeSimples_k9 (p := 6) rfl (by decide +kernel)
theorem dmX13_makeSimples_231_a : decode cX13_makeSimples 231 = .ok (.iload_n 1, 1) := dw_at cX13_makeSimples_k9 (p := 8) rfl (by decide +kernel)
theorem dmX13_makeSimples_232_a : decode cX13_makeSimples 232 = .ok (.if_icmp .ge 28, 3) := dw_at cX13_makeSimples_k9 (p := 9) rfl (by decide +kernel)
theorem dmX13_makeSimples_235_a : decode cX13_makeSimples 235 = .ok (.aload_n 0, 1) := dw_at cX13_makeSimples_k9 (p := 12) rfl (by decide +kernel)
theorem dmX13_makeSimples_236_a : decode cX13_makeSimples 236 = .ok (.getfield 332, 3) := dw_at cX13_makeSimples_k9 (p := 13) rfl (by decide +kernel)
theorem dmX13_makeSimples_239_a : decode cX13_makeSimples 239 = .ok (.iconst 5, 1) := dw_at cX13_makeSimples_k9 (p := 16) rfl (by decide +kernel)
theorem dmX13_makeSimples_240_a : decode cX13_makeSimples 240 = .ok (.iload 8, 2) := dw_at cX13_makeSimples_k9 (p := 17) rfl (by decide +kernel)
theorem dmX13_makeSimples_242_a : decode cX13_makeSimples 242 = .ok (.imul, 1) := dw_at cX13_makeSimples_k9 (p := 19) rfl (by decide +kernel)
theorem dmX13_makeSimples_243_a : decode cX13_makeSimples 243 = .ok (.iload 9, 2) := dw_at cX13_makeSimples_k9 (p := 20) rfl (by decide +kernel)
theorem dmX13_makeSimples_245_a : decode cX13_makeSimples 245 = .ok (.iadd, 1) := dw_at cX13_makeSimples_k9 (p := 22) rfl (by decide +kernel)
theorem dmX13_makeSimples_246_a : decode cX13_makeSimples 246 = .ok (.aload_n 0, 1) := dw_at cX13_makeSimples_k9 (p := 23) rfl (by decide +kernel)
theorem dmX13_makeSimples_247_a : decode cX13_makeSimples 247 = .ok (.getfield 356, 3) := dw_at cX13_makeSimples_k10 (p := 0) rfl (by decide +kernel)
theorem dmX13_makeSimples_250_a : decode cX13_makeSimples 250 = .ok (.iload 9, 2) := dw_at cX13_makeSimples_k10 (p := 3) rfl (by decide +kernel)
theorem dmX13_makeSimples_252_a : decode cX13_makeSimples 252 = .ok (.iaload, 1) := dw_at cX13_makeSimples_k10 (p := 5) rfl (by decide +kernel)
theorem dmX13_makeSimples_253_a : decode cX13_makeSimples 253 = .ok (.iastore, 1) := dw_at cX13_makeSimples_k10 (p := 6) rfl (by decide +kernel)
theorem dmX13_makeSimples_254_a : decode cX13_makeSimples 254 = .ok (.iinc 9 1, 3) := dw_at cX13_makeSimples_k10 (p := 7) rfl (by decide +kernel)
theorem dmX13_makeSimples_257_a : decode cX13_makeSimples 257 = .ok (.goto (-28), 3) := dw_at cX13_makeSimples_k10 (p := 10) rfl (by decide +kernel)
theorem dmX13_makeSimples_260_a : decode cX13_makeSimples 260 = .ok (.aload_n 0, 1) := dw_at cX13_makeSimples_k10 (p := 13) rfl (by decide +kernel)
theorem dmX13_makeSimples_261_a : decode cX13_makeSimples 261 = .ok (.getfield 338, 3) := dw_at cX13_makeSimples_k10 (p := 14) rfl (by decide +kernel)
theorem dmX13_makeSimples_264_a : decode cX13_makeSimples 264 = .ok (.iload 8, 2) := dw_at cX13_makeSimples_k10 (p := 17) rfl (by decide +kernel)
theorem dmX13_makeSimples_266_a : decode cX13_makeSimples 266 = .ok (.aload_n 0, 1) := dw_at cX13_makeSimples_k10 (p := 19) rfl (by decide +kernel)
theorem dmX13_makeSimples_267_a : decode cX13_makeSimples 267 = .ok (.getfield 338, 3) := dw_at cX13_makeSimples_k10 (p := 20) rfl (by decide +kernel)
theorem dmX13_makeSimples_270_a : decode cX13_makeSimples 270 = .ok (.iload_n 3, 1) := dw_at cX13_makeSimples_k10 (p := 23) rfl (by decide +kernel)
theorem dmX13_makeSimples_271_a : decode cX13_makeSimples 271 = .ok (.iaload, 1) := dw_at cX13_makeSimples_k11 (p := 0) rfl (by decide +kernel)
theorem dmX13_makeSimples_272_a : decode cX13_makeSimples 272 = .ok (.iconst 1, 1) := dw_at cX13_makeSimples_k11 (p := 1) rfl (by decide +kernel)
theorem dmX13_makeSimples_273_a : decode cX13_makeSimples 273 = .ok (.iadd, 1) := dw_at cX13_makeSimples_k11 (p := 2) rfl (by decide +kernel)
theorem dmX13_makeSimples_274_a : decode cX13_makeSimples 274 = .ok (.iastore, 1) := dw_at cX13_makeSimples_k11 (p := 3) rfl (by decide +kernel)
theorem dmX13_makeSimples_275_a : decode cX13_makeSimples 275 = .ok (.iconst 0, 1) := dw_at cX13_makeSimples_k11 (p := 4) rfl (by decide +kernel)
theorem dmX13_makeSimples_276_a : decode cX13_makeSimples 276 = .ok (.istore 9, 2) := dw_at cX13_makeSimples_k11 (p := 5) rfl (by decide +kernel)
theorem dmX13_makeSimples_278_a : decode cX13_makeSimples 278 = .ok (.iload 9, 2) := dw_at cX13_makeSimples_k11 (p := 7) rfl (by decide +kernel)
theorem dmX13_makeSimples_280_a : decode cX13_makeSimples 280 = .ok (.aload_n 0, 1) := dw_at cX13_makeSimples_k11 (p := 9) rfl (by decide +kernel)
theorem dmX13_makeSimples_281_a : decode cX13_makeSimples 281 = .ok (.getfield 338, 3) := dw_at cX13_makeSimples_k11 (p := 10) rfl (by decide +kernel)
theorem dmX13_makeSimples_284_a : decode cX13_makeSimples 284 = .ok (.iload_n 3, 1) := dw_at cX13_makeSimples_k11 (p := 13) rfl (by decide +kernel)
theorem dmX13_makeSimples_285_a : decode cX13_makeSimples 285 = .ok (.iaload, 1) := dw_at cX13_makeSimples_k11 (p := 14) rfl (by decide +kernel)
theorem dmX13_makeSimples_286_a : decode cX13_makeSimples 286 = .ok (.if_icmp .ge 34, 3) := dw_at cX13_makeSimples_k11 (p := 15) rfl (by decide +kernel)
theorem dmX13_makeSimples_289_a : decode cX13_makeSimples 289 = .ok (.aload_n 0, 1) := dw_at cX13_makeSimples_k11 (p := 18) rfl (by decide +kernel)
theorem dmX13_makeSimples_290_a : decode cX13_makeSimples 290 = .ok (.getfield 335, 3) := dw_at cX13_makeSimples_k11 (p := 19) rfl (by decide +kernel)
theorem dmX13_makeSimples_293_a : decode cX13_makeSimples 293 = .ok (.bipush 10, 2) := dw_at cX13_makeSimples_k11 (p := 22) rfl (by decide +kernel)
theorem dmX13_makeSimples_295_a : decode cX13_makeSimples 295 = .ok (.iload 8, 2) := dw_at cX13_makeSimples_k12 (p := 0) rfl (by decide +kernel)
theorem dmX13_makeSimples_297_a : decode cX13_makeSimples 297 = .ok (.imul, 1) := dw_at cX13_makeSimples_k12 (p := 2) rfl (by decide +kernel)
theorem dmX13_makeSimples_298_a : decode cX13_makeSimples 298 = .ok (.iload 9, 2) := dw_at cX13_makeSimples_k12 (p := 3) rfl (by decide +kernel)
theorem dmX13_makeSimples_300_a : decode cX13_makeSimples 300 = .ok (.iadd, 1) := dw_at cX13_makeSimples_k12 (p := 5) rfl (by decide +kernel)
theorem dmX13_makeSimples_301_a : decode cX13_makeSimples 301 = .ok (.aload_n 0, 1) := dw_at cX13_makeSimples_k12 (p := 6) rfl (by decide +kernel)
theorem dmX13_makeSimples_302_a : decode cX13_makeSimples 302 = .ok (.getfield 335, 3) := dw_at cX13_makeSimples_k12 (p := 7) rfl (by decide +kernel)
theorem dmX13_makeSimples_305_a : decode cX13_makeSimples 305 = .ok (.bipush 10, 2) := dw_at cX13_makeSimples_k12 (p := 10) rfl (by decide +kernel)
theorem dmX13_makeSimples_307_a : decode cX13_makeSimples 307 = .ok (.iload_n 3, 1) := dw_at cX13_makeSimples_k12 (p := 12) rfl (by decide +kernel)
theorem dmX13_makeSimples_308_a : decode cX13_makeSimples 308 = .ok (.imul, 1) := dw_at cX13_makeSimples_k12 (p := 13) rfl (by decide +kernel)
theorem dmX13_makeSimples_309_a : decode cX13_makeSimples 309 = .ok (.iload 9, 2) := dw_at cX13_makeSimples_k12 (p := 14) rfl (by decide +kernel)
theorem dmX13_makeSimples_311_a : decode cX13_makeSimples 311 = .ok (.iadd, 1) := dw_at cX13_makeSimples_k12 (p := 16) rfl (by decide +kernel)
theorem dmX13_makeSimples_312_a : decode cX13_makeSimples 312 = .ok (.iaload, 1) := dw_at cX13_makeSimples_k12 (p := 17) rfl (by decide +kernel)
theorem dmX13_makeSimples_313_a : decode cX13_makeSimples 313 = .ok (.iastore, 1) := dw_at cX13_makeSimples_k12 (p := 18) rfl (by decide +kernel)
theorem dmX13_makeSimples_314_a : decode cX13_makeSimples 314 = .ok (.iinc 9 1, 3) := dw_at cX13_makeSimples_k12 (p := 19) rfl (by decide +kernel)
theorem dmX13_makeSimples_317_a : decode cX13_makeSimples 317 = .ok (.goto (-39), 3) := dw_at cX13_makeSimples_k12 (p := 22) rfl (by decide +kernel)
theorem dmX13_makeSimples_320_a : decode cX13_makeSimples 320 = .ok (.aload_n 0, 1) := dw_at cX13_makeSimples_k13 (p := 0) rfl (by decide +kernel)
theorem dmX13_makeSimples_321_a : decode cX13_makeSimples 321 = .ok (.getfield 335, 3) := dw_at cX13_makeSimples_k13 (p := 1) rfl (by decide +kernel)
theorem dmX13_makeSimples_324_a : decode cX13_makeSimples 324 = .ok (.bipush 10, 2) := dw_at cX13_makeSimples_k13 (p := 4) rfl (by decide +kernel)
theorem dmX13_makeSimples_326_a : decode cX13_makeSimples 326 = .ok (.iload 8, 2) := dw_at cX13_makeSimples_k13 (p := 6) rfl (by decide +kernel)
theorem dmX13_makeSimples_328_a : decode cX13_makeSimples 328 = .ok (.imul, 1) := dw_at cX13_makeSimples_k13 (p := 8) rfl (by decide +kernel)
theorem dmX13_makeSimples_329_a : decode cX13_makeSimples 329 = .ok (.aload_n 0, 1) := dw_at cX13_makeSimples_k13 (p := 9) rfl (by decide +kernel)
theorem dmX13_makeSimples_330_a : decode cX13_makeSimples 330 = .ok (.getfield 338, 3) := dw_at cX13_makeSimples_k13 (p := 10) rfl (by decide +kernel)
theorem dmX13_makeSimples_333_a : decode cX13_makeSimples 333 = .ok (.iload_n 3, 1) := dw_at cX13_makeSimples_k13 (p := 13) rfl (by decide +kernel)
theorem dmX13_makeSimples_334_a : decode cX13_makeSimples 334 = .ok (.iaload, 1) := dw_at cX13_makeSimples_k13 (p := 14) rfl (by decide +kernel)
theorem dmX13_makeSimples_335_a : decode cX13_makeSimples 335 = .ok (.iadd, 1) := dw_at cX13_makeSimples_k13 (p := 15) rfl (by decide +kernel)
theorem dmX13_makeSimples_336_a : decode cX13_makeSimples 336 = .ok (.iload 4, 2) := dw_at cX13_makeSimples_k13 (p := 16) rfl (by decide +kernel)
theorem dmX13_makeSimples_338_a : decode cX13_makeSimples 338 = .ok (.iastore, 1) := dw_at cX13_makeSimples_k13 (p := 18) rfl (by decide +kernel)
theorem dmX13_makeSimples_339_a : decode cX13_makeSimples 339 = .ok (.aload_n 0, 1) := dw_at cX13_makeSimples_k13 (p := 19) rfl (by decide +kernel)
theorem dmX13_makeSimples_340_a : decode cX13_makeSimples 340 = .ok (.getfield 329, 3) := dw_at cX13_makeSimples_k13 (p := 20) rfl (by decide +kernel)
theorem dmX13_makeSimples_343_a : decode cX13_makeSimples 343 = .ok (.iload_n 1, 1) := dw_at cX13_makeSimples_k13 (p := 23) rfl (by decide +kernel)
theorem dmX13_makeSimples_344_a : decode cX13_makeSimples 344 = .ok (.dup2, 1) := dw_at cX13_makeSimples_k14 (p := 0) rfl (by decide +kernel)
theorem dmX13_makeSimples_345_a : decode cX13_makeSimples 345 = .ok (.iaload, 1) := dw_at cX13_makeSimples_k14 (p := 1) rfl (by decide +kernel)
theorem dmX13_makeSimples_346_a : decode cX13_makeSimples 346 = .ok (.iconst 1, 1) := dw_at cX13_makeSimples_k14 (p := 2) rfl (by decide +kernel)
theorem dmX13_makeSimples_347_a : decode cX13_makeSimples 347 = .ok (.iadd, 1) := dw_at cX13_makeSimples_k14 (p := 3) rfl (by decide +kernel)
theorem dmX13_makeSimples_348_a : decode cX13_makeSimples 348 = .ok (.iastore, 1) := dw_at cX13_makeSimples_k14 (p := 4) rfl (by decide +kernel)
theorem dmX13_makeSimples_349_a : decode cX13_makeSimples 349 = .ok (.aload_n 0, 1) := dw_at cX13_makeSimples_k14 (p := 5) rfl (by decide +kernel)
theorem dmX13_makeSimples_350_a : decode cX13_makeSimples 350 = .ok (.getfield 341, 3) := dw_at cX13_makeSimples_k14 (p := 6) rfl (by decide +kernel)
theorem dmX13_makeSimples_353_a : decode cX13_makeSimples 353 = .ok (.iconst 4, 1) := dw_at cX13_makeSimples_k14 (p := 9) rfl (by decide +kernel)
theorem dmX13_makeSimples_354_a : decode cX13_makeSimples 354 = .ok (.iload_n 3, 1) := dw_at cX13_makeSimples_k14 (p := 10) rfl (by decide +kernel)
theorem dmX13_makeSimples_355_a : decode cX13_makeSimples 355 = .ok (.imul, 1) := dw_at cX13_makeSimples_k14 (p := 11) rfl (by decide +kernel)
theorem dmX13_makeSimples_356_a : decode cX13_makeSimples 356 = .ok (.iload 4, 2) := dw_at cX13_makeSimples_k14 (p := 12) rfl (by decide +kernel)
theorem dmX13_makeSimples_358_a : decode cX13_makeSimples 358 = .ok (.iadd, 1) := dw_at cX13_makeSimples_k14 (p := 14) rfl (by decide +kernel)
theorem dmX13_makeSimples_359_a : decode cX13_makeSimples 359 = .ok (.iload 7, 2) := dw_at cX13_makeSimples_k14 (p := 15) rfl (by decide +kernel)
theorem dmX13_makeSimples_361_a : decode cX13_makeSimples 361 = .ok (.iastore, 1) := dw_at cX13_makeSimples_k14 (p := 17) rfl (by decide +kernel)
theorem dmX13_makeSimples_362_a : decode cX13_makeSimples 362 = .ok (.iinc 4 1, 3) := dw_at cX13_makeSimples_k14 (p := 18) rfl (by decide +kernel)
theorem dmX13_makeSimples_365_a : decode cX13_makeSimples 365 = .ok (.goto (-303), 3) := dw_at cX13_makeSimples_k14 (p := 21) rfl (by decide +kernel)
theorem dmX13_makeSimples_368_a : decode cX13_makeSimples 368 = .ok (.iinc 2 1, 3) := dw_at cX13_makeSimples_k15 (p := 0) rfl (by decide +kernel)
theorem dmX13_makeSimples_371_a : decode cX13_makeSimples 371 = .ok (.goto (-329), 3) := dw_at cX13_makeSimples_k15 (p := 3) rfl (by decide +kernel)
theorem dmX13_makeSimples_374_a : decode cX13_makeSimples 374 = .ok (.aload_n 0, 1) := dw_at cX13_makeSimples_k15 (p := 6) rfl (by decide +kernel)
theorem dmX13_makeSimples_375_a : decode cX13_makeSimples 375 = .ok (.iload_n 1, 1) := dw_at cX13_makeSimples_k15 (p := 7) rfl (by decide +kernel)
theorem dmX13_makeSimples_376_a : decode cX13_makeSimples 376 = .ok (.invokevirtual 728, 3) := dw_at cX13_makeSimples_k15 (p := 8) rfl (by decide +kernel)
theorem dmX13_makeSimples_379_a : decode cX13_makeSimples 379 = .ok (.iconst 0, 1) := dw_at cX13_makeSimples_k15 (p := 11) rfl (by decide +kernel)
theorem dmX13_makeSimples_380_a : decode cX13_makeSimples 380 = .ok (.istore_n 2, 1) := dw_at cX13_makeSimples_k15 (p := 12) rfl (by decide +kernel)
theorem dmX13_makeSimples_381_a : decode cX13_makeSimples 381 = .ok (.iload_n 2, 1) := dw_at cX13_makeSimples_k15 (p := 13) rfl (by decide +kernel)
theorem dmX13_makeSimples_382_a : decode cX13_makeSimples 382 = .ok (.aload_n 0, 1) := dw_at cX13_makeSimples_k15 (p := 14) rfl (by decide +kernel)
theorem dmX13_makeSimples_383_a : decode cX13_makeSimples 383 = .ok (.getfield 329, 3) := dw_at cX13_makeSimples_k15 (p := 15) rfl (by decide +kernel)
theorem dmX13_makeSimples_386_a : decode cX13_makeSimples 386 = .ok (.iload_n 1, 1) := dw_at cX13_makeSimples_k15 (p := 18) rfl (by decide +kernel)
theorem dmX13_makeSimples_387_a : decode cX13_makeSimples 387 = .ok (.iaload, 1) := dw_at cX13_makeSimples_k15 (p := 19) rfl (by decide +kernel)
theorem dmX13_makeSimples_388_a : decode cX13_makeSimples 388 = .ok (.if_icmp .ge 31, 3) := dw_at cX13_makeSimples_k15 (p := 20) rfl (by decide +kernel)
theorem dmX13_makeSimples_391_a : decode cX13_makeSimples 391 = .ok (.iconst 0, 1) := dw_at cX13_makeSimples_k15 (p := 23) rfl (by decide +kernel)
theorem dmX13_makeSimples_392_a : decode cX13_makeSimples 392 = .ok (.istore_n 3, 1) := dw_at cX13_makeSimples_k16 (p := 0) rfl (by decide +kernel)
theorem dmX13_makeSimples_393_a : decode cX13_makeSimples 393 = .ok (.iload_n 3, 1) := dw_at cX13_makeSimples_k16 (p := 1) rfl (by decide +kernel)
theorem dmX13_makeSimples_394_a : decode cX13_makeSimples 394 = .ok (.iload_n 1, 1) := dw_at cX13_makeSimples_k16 (p := 2) rfl (by decide +kernel)
theorem dmX13_makeSimples_395_a : decode cX13_makeSimples 395 = .ok (.iconst 1, 1) := dw_at cX13_makeSimples_k16 (p := 3) rfl (by decide +kernel)
theorem dmX13_makeSimples_396_a : decode cX13_makeSimples 396 = .ok (.isub, 1) := dw_at cX13_makeSimples_k16 (p := 4) rfl (by decide +kernel)
theorem dmX13_makeSimples_397_a : decode cX13_makeSimples 397 = .ok (.if_icmp .ge 16, 3) := dw_at cX13_makeSimples_k16 (p := 5) rfl (by decide +kernel)
theorem dmX13_makeSimples_400_a : decode cX13_makeSimples 400 = .ok (.aload_n 0, 1) := dw_at cX13_makeSimples_k16 (p := 8) rfl (by decide +kernel)
theorem dmX13_makeSimples_401_a : decode cX13_makeSimples 401 = .ok (.iload_n 1, 1) := dw_at cX13_makeSimples_k16 (p := 9) rfl (by decide +kernel)
theorem dmX13_makeSimples_402_a : decode cX13_makeSimples 402 = .ok (.iload_n 2, 1) := dw_at cX13_makeSimples_k16 (p := 10) rfl (by decide +kernel)
theorem dmX13_makeSimples_403_a : decode cX13_makeSimples 403 = .ok (.iload_n 3, 1) := dw_at cX13_makeSimples_k16 (p := 11) rfl (by decide +kernel)
theorem dmX13_makeSimples_404_a : decode cX13_makeSimples 404 = .ok (.invokevirtual 731, 3) := dw_at cX13_makeSimples_k16 (p := 12) rfl (by decide +kernel)
theorem dmX13_makeSimples_407_a : decode cX13_makeSimples 407 = .ok (.iinc 3 1, 3) := dw_at cX13_makeSimples_k16 (p := 15) rfl (by decide +kernel)
theorem dmX13_makeSimples_410_a : decode cX13_makeSimples 410 = .ok (.goto (-17), 3) := dw_at cX13_makeSimples_k16 (p := 18) rfl (by decide +kernel)
theorem dmX13_makeSimples_413_a : decode cX13_makeSimples 413 = .ok (.iinc 2 1, 3) := dw_at cX13_makeSimples_k16 (p := 21) rfl (by decide +kernel)
theorem dmX13_makeSimples_416_a : decode cX13_makeSimples 416 = .ok (.goto (-35), 3) := dw_at cX13_makeSimples_k17 (p := 0) rfl (by decide +kernel)
theorem dmX13_makeSimples_419_a : decode cX13_makeSimples 419 = .ok (.iinc 1 1, 3) := dw_at cX13_makeSimples_k17 (p := 3) rfl (by decide +kernel)
theorem dmX13_makeSimples_422_a : decode cX13_makeSimples 422 = .ok (.goto (-420), 3) := dw_at cX13_makeSimples_k17 (p := 6) rfl (by decide +kernel)
theorem dmX13_makeSimples_425_a : decode cX13_makeSimples 425 = .ok (.return_, 1) := dw_at cX13_makeSimples_k17 (p := 9) rfl (by decide +kernel)
def qm_X13_makeSimples_0_a (K : Nat) (go : Nat → Int32 → Int32 → Int32 → Int32 → Int32 → Int32 → Int32 → Int32 → Int32 → Int32 → ow_MS → Option ow_MS) (x1 : Int32) (x2 : Int32) (x3 : Int32) (x4 : Int32) (x5 : Int32) (x6 : Int32) (x7 : Int32) (x8 : Int32) (x9 : Int32) (t0 : Int32) (z : ow_MS) : Option ow_MS :=
 go 1 2 0 0 0 0 0 0 0 0 0 z
def qm_X13_makeSimples_1_a (K : Nat) (go : Nat → Int32 → Int32 → Int32 → Int32 → Int32 → Int32 → Int32 → Int32 → Int32 → Int32 → ow_MS → Option ow_MS) (x1 : Int32) (x2 : Int32) (x3 : Int32) (x4 : Int32) (x5 : Int32) (x6 : Int32) (x7 : Int32) (x8 : Int32) (x9 : Int32) (t0 : Int32) (z : ow_MS) : Option ow_MS :=
 (if 5 < x1 then some z
 else go 2 x1 0 0 0 0 0 0 0 0 0 z)
def qm_X13_makeSimples_2_a (K : Nat) (go : Nat → Int32 → Int32 → Int32 → Int32 → Int32 → Int32 → Int32 → Int32 → Int32 → Int32 → ow_MS → Option ow_MS) (x1 : Int32) (x2 : Int32) (x3 : Int32) (x4 : Int32) (x5 : Int32) (x6 : Int32) (x7 : Int32) (x8 : Int32) (x9 : Int32) (t0 : Int32) (z : ow_MS) : Option ow_MS :=
 (if x1 ≤ x2 then wrI mX_a z 97 x1 1 fun z1 => go 3 x1 0 0 0 0 0 0 0 0 0 z1
 else wrI mX_a z 98 ((600 * x1) + x2) x2 fun z2 => go 2 x1 (x2 + 1) 0 0 0 0 0 0 0 0 z2)
def qm_X13_makeSimples_3_a (K : Nat) (go : Nat → Int32 → Int32 → Int32 → Int32 → Int32 → Int32 → Int32 → Int32 → Int32 → Int32 → ow_MS → Option ow_MS) (x1 : Int32) (x2 : Int32) (x3 : Int32) (x4 : Int32) (x5 : Int32) (x6 : Int32) (x7 : Int32) (x8 : Int32) (x9 : Int32) (t0 : Int32) (z : ow_MS) : Option ow_MS :=
 rdI mX_a z 97 x1 fun v3 => (if v3 ≤ x2 then cs0 (qe_X13_makeTurned_a K x1 z) fun z4 => go 12 x1 0 0 0 0 0 0 0 0 0 z4
 else go 4 x1 x2 ((120 * x1) + x2) 0 0 0 0 0 0 0 z)
def qm_X13_makeSimples_4_a (K : Nat) (go : Nat → Int32 → Int32 → Int32 → Int32 → Int32 → Int32 → Int32 → Int32 → Int32 → Int32 → ow_MS → Option ow_MS) (x1 : Int32) (x2 : Int32) (x3 : Int32) (x4 : Int32) (x5 : Int32) (x6 : Int32) (x7 : Int32) (x8 : Int32) (x9 : Int32) (t0 : Int32) (z : ow_MS) : Option ow_MS :=
 (if (x1 - 1) ≤ x4 then go 3 x1 (x2 + 1) 0 0 0 0 0 0 0 0 z
 else go 5 x1 x2 x3 x4 0 0 0 0 0 0 z)
def qm_X13_makeSimples_5_a (K : Nat) (go : Nat → Int32 → Int32 → Int32 → Int32 → Int32 → Int32 → Int32 → Int32 → Int32 → Int32 → ow_MS → Option ow_MS) (x1 : Int32) (x2 : Int32) (x3 : Int32) (x4 : Int32) (x5 : Int32) (x6 : Int32) (x7 : Int32) (x8 : Int32) (x9 : Int32) (t0 : Int32) (z : ow_MS) : Option ow_MS :=
 (if x1 ≤ x7 then wrI mX_a z 101 ((4 * x3) + x4) (-1) fun z5 => (if x6 ≤ x5 then go 11 x1 x2 x3 x4 x5 x6 x7 0 0 0 z5
 else wrI mX_a z5 106 x5 (x4 + 1) fun z6 => wrI mX_a z6 106 x6 x4 fun z7 => cs1 (qe_X13_find_a K x1 106 z7) fun v9 z8 => (if v9 = (-1) then rdI mX_a z8 97 x1 fun v10 => go 8 x1 x2 x3 x4 x5 x6 v10 ((120 * x1) + v10) 0 0 z8
 else go 10 x1 x2 x3 x4 x5 x6 v9 0 0 0 z8))
 else rdI mX_a z 98 ((5 * x3) + x7) fun v11 => wrI mX_a z 106 x7 v11 fun z12 => rdI mX_a z12 106 x7 fun v13 => (if v13 = x4 then go 6 x1 x2 x3 x4 x5 x6 x7 0 0 x7 z12
 else go 6 x1 x2 x3 x4 x5 x6 x7 0 0 x5 z12))
def qm_X13_makeSimples_6_a (K : Nat) (go : Nat → Int32 → Int32 → Int32 → Int32 → Int32 → Int32 → Int32 → Int32 → Int32 → Int32 → ow_MS → Option ow_MS) (x1 : Int32) (x2 : Int32) (x3 : Int32) (x4 : Int32) (x5 : Int32) (x6 : Int32) (x7 : Int32) (x8 : Int32) (x9 : Int32) (t0 : Int32) (z : ow_MS) : Option ow_MS :=
 rdI mX_a z 106 x7 fun v14 => (if v14 = (x4 + 1) then go 7 x1 x2 x3 x4 t0 x6 x7 0 0 x7 z
 else go 7 x1 x2 x3 x4 t0 x6 x7 0 0 x6 z)
def qm_X13_makeSimples_7_a (K : Nat) (go : Nat → Int32 → Int32 → Int32 → Int32 → Int32 → Int32 → Int32 → Int32 → Int32 → Int32 → ow_MS → Option ow_MS) (x1 : Int32) (x2 : Int32) (x3 : Int32) (x4 : Int32) (x5 : Int32) (x6 : Int32) (x7 : Int32) (x8 : Int32) (x9 : Int32) (t0 : Int32) (z : ow_MS) : Option ow_MS :=
 go 5 x1 x2 x3 x4 x5 t0 (x7 + 1) 0 0 0 z
def qm_X13_makeSimples_8_a (K : Nat) (go : Nat → Int32 → Int32 → Int32 → Int32 → Int32 → Int32 → Int32 → Int32 → Int32 → Int32 → ow_MS → Option ow_MS) (x1 : Int32) (x2 : Int32) (x3 : Int32) (x4 : Int32) (x5 : Int32) (x6 : Int32) (x7 : Int32) (x8 : Int32) (x9 : Int32) (t0 : Int32) (z : ow_MS) : Option ow_MS :=
 (if x1 ≤ x9 then rdI mX_a z 100 x3 fun v15 => wrI mX_a z 100 x8 (v15 + 1) fun z16 => go 9 x1 x2 x3 x4 x5 x6 x7 x8 0 0 z16
 else rdI mX_a z 106 x9 fun v17 => wrI mX_a z 98 ((5 * x8) + x9) v17 fun z18 => go 8 x1 x2 x3 x4 x5 x6 x7 x8 (x9 + 1) 0 z18)
def qm_X13_makeSimples_9_a (K : Nat) (go : Nat → Int32 → Int32 → Int32 → Int32 → Int32 → Int32 → Int32 → Int32 → Int32 → Int32 → ow_MS → Option ow_MS) (x1 : Int32) (x2 : Int32) (x3 : Int32) (x4 : Int32) (x5 : Int32) (x6 : Int32) (x7 : Int32) (x8 : Int32) (x9 : Int32) (t0 : Int32) (z : ow_MS) : Option ow_MS :=
 rdI mX_a z 100 x3 fun v19 => (if v19 ≤ x9 then rdI mX_a z 100 x3 fun v20 => wrI mX_a z 99 ((10 * x8) + v20) x4 fun z21 => rdI mX_a z21 97 x1 fun v22 => wrI mX_a z21 97 x1 (v22 + 1) fun z23 => go 10 x1 x2 x3 x4 x5 x6 x7 0 0 0 z23
 else rdI mX_a z 99 ((10 * x3) + x9) fun v24 => wrI mX_a z 99 ((10 * x8) + x9) v24 fun z25 => go 9 x1 x2 x3 x4 x5 x6 x7 x8 (x9 + 1) 0 z25)
def qm_X13_makeSimples_10_a (K : Nat) (go : Nat → Int32 → Int32 → Int32 → Int32 → Int32 → Int32 → Int32 → Int32 → Int32 → Int32 → ow_MS → Option ow_MS) (x1 : Int32) (x2 : Int32) (x3 : Int32) (x4 : Int32) (x5 : Int32) (x6 : Int32) (x7 : Int32) (x8 : Int32) (x9 : Int32) (t0 : Int32) (z : ow_MS) : Option ow_MS :=
 wrI mX_a z 101 ((4 * x3) + x4) x7 fun z26 => go 11 x1 x2 x3 x4 x5 x6 x7 0 0 0 z26
def qm_X13_makeSimples_11_a (K : Nat) (go : Nat → Int32 → Int32 → Int32 → Int32 → Int32 → Int32 → Int32 → Int32 → Int32 → Int32 → ow_MS → Option ow_MS) (x1 : Int32) (x2 : Int32) (x3 : Int32) (x4 : Int32) (x5 : Int32) (x6 : Int32) (x7 : Int32) (x8 : Int32) (x9 : Int32) (t0 : Int32) (z : ow_MS) : Option ow_MS :=
 go 4 x1 x2 x3 (x4 + 1) 0 0 0 0 0 0 z
def qm_X13_makeSimples_12_a (K : Nat) (go : Nat → Int32 → Int32 → Int32 → Int32 → Int32 → Int32 → Int32 → Int32 → Int32 → Int32 → ow_MS → Option ow_MS) (x1 : Int32) (x2 : Int32) (x3 : Int32) (x4 : Int32) (x5 : Int32) (x6 : Int32) (x7 : Int32) (x8 : Int32) (x9 : Int32) (t0 : Int32) (z : ow_MS) : Option ow_MS :=
 rdI mX_a z 97 x1 fun v27 => (if v27 ≤ x2 then go 1 (x1 + 1) 0 0 0 0 0 0 0 0 0 z
 else go 13 x1 x2 0 0 0 0 0 0 0 0 z)
def qm_X13_makeSimples_13_a (K : Nat) (go : Nat → Int32 → Int32 → Int32 → Int32 → Int32 → Int32 → Int32 → Int32 → Int32 → Int32 → ow_MS → Option ow_MS) (x1 : Int32) (x2 : Int32) (x3 : Int32) (x4 : Int32) (x5 : Int32) (x6 : Int32) (x7 : Int32) (x8 : Int32) (x9 : Int32) (t0 : Int32) (z : ow_MS) : Option ow_MS :=
 (if (x1 - 1) ≤ x3 then go 12 x1 (x2 + 1) 0 0 0 0 0 0 0 0 z
 else cs0 (qe_X13_turnRound_a K x1 x2 x3 z) fun z28 => go 13 x1 x2 (x3 + 1) 0 0 0 0 0 0 0 z28)
def qb_X13_makeSimples_a (K : Nat) (go : Nat → Int32 → Int32 → Int32 → Int32 → Int32 → Int32 → Int32 → Int32 → Int32 → Int32 → ow_MS → Option ow_MS) (L : Nat) (x1 : Int32) (x2 : Int32) (x3 : Int32) (x4 : Int32) (x5 : Int32) (x6 : Int32) (x7 : Int32) (x8 : Int32) (x9 : Int32) (t0 : Int32) (z : ow_MS) : Option ow_MS := match L with
  | 0 => qm_X13_makeSimples_0_a K go x1 x2 x3 x4 x5 x6 x7 x8 x9 t0 z
  | 1 => qm_X13_makeSimples_1_a K go x1 x2 x3 x4 x5 x6 x7 x8 x9 t0 z
  | 2 => qm_X13_makeSimples_2_a K go x1 x2 x3 x4 x5 x6 x7 x8 x9 t0 z
  | 3 => qm_X13_makeSimples_3_a K go x1 x2 x3 x4 x5 x6 x7 x8 x9 t0 z
  | 4 => qm_X13_makeSimples_4_a K go x1 x2 x3 x4 x5 x6 x7 x8 x9 t0 z
  | 5 => qm_X13_makeSimples_5_a K go x1 x2 x3 x4 x5 x6 x7 x8 x9 t0 z
  | 6 => qm_X13_makeSimples_6_a K go x1 x2 x3 x4 x5 x6 x7 x8 x9 t0 z
  | 7 => qm_X13_makeSimples_7_a K go x1 x2 x3 x4 x5 x6 x7 x8 x9 t0 z
  | 8 => qm_X13_makeSimples_8_a K go x1 x2 x3 x4 x5 x6 x7 x8 x9 t0 z
  | 9 => qm_X13_makeSimples_9_a K go x1 x2 x3 x4 x5 x6 x7 x8 x9 t0 z
  | 10 => qm_X13_makeSimples_10_a K go x1 x2 x3 x4 x5 x6 x7 x8 x9 t0 z
  | 11 => qm_X13_makeSimples_11_a K go x1 x2 x3 x4 x5 x6 x7 x8 x9 t0 z
  | 12 => qm_X13_makeSimples_12_a K go x1 x2 x3 x4 x5 x6 x7 x8 x9 t0 z
  | 13 => qm_X13_makeSimples_13_a K go x1 x2 x3 x4 x5 x6 x7 x8 x9 t0 z
  | _ => none
def q_X13_makeSimples_a (K : Nat) : Nat → Nat → Int32 → Int32 → Int32 → Int32 → Int32 → Int32 → Int32 → Int32 → Int32 → Int32 → ow_MS → Option ow_MS
  | 0 => fun _ _ _ _ _ _ _ _ _ _ _ _ => none
  | k + 1 => qb_X13_makeSimples_a K (q_X13_makeSimples_a K k)
def qe_X13_makeSimples_a (K : Nat)  (z : ow_MS) : Option ow_MS := q_X13_makeSimples_a K K 0 0 0 0 0 0 0 0 0 0 0 z
abbrev wm_X13_makeSimples_a : List Cond := .code yX13_makeSimples cX13_makeSimples 10 none :: wM_a
theorem cd_X13_makeSimples_a : yX13_makeSimples.cls = RX13 ∧ yX13_makeSimples.cls ≠ "java/lang/invoke/MethodHandle" ∧ yX13_makeSimples.cls ≠ "java/lang/invoke/VarHandle" ∧ (parseMethodDescriptor yX13_makeSimples.desc).map (fun d => d.parameters.length) = some 0 := by decide +kernel
set_option maxHeartbeats 4000000 in
set_option maxRecDepth 100000 in
theorem km_X13_makeSimples_a (l : Launch) (D : va_G) (q : ow_Q5) (u : Nat → Nat) (hU : tw_inj mX_a u) (K : Nat)   (z z1 : ow_MS) (hq : qe_X13_makeSimples_a K  z = some z1) : Met l yX13_makeSimples wm_X13_makeSimples_a ({ frames := 2, cells := 0, slots := 0, locals := 59 } : Room) (va_Pc [.ref (u 0)] (mw_pre_a D q u z)) (va_Qv (fun (_ : Unit) => True) (fun _ t => va_P D vwCl (tw mX_a q u z1) t.heap) (tw_A mX_a u)) 0 0 (tw_A mX_a u) := by
  refine Met.ofW (cc := cX13_makeSimples) (maxL := 10) (ret := none) (by decide) rfl ?_
  intro p e s m args below meth c s₁ B hml hv
  obtain ⟨rfl, hP, hK, hN⟩ := hv
  have hx := B.exec
  have hb := B.bytes
  have hr := B.returns
  have hts := atoms_spec (ws := wm_X13_makeSimples_a) B.pre
  have hT : ∀ w ∈ wM_a, w.before ([.ref (u 0)] : List Value).toArray s = true := fun w h => hts w (List.mem_cons_of_mem _ h)
  have hown : s.vm.findClass RX13 = some m.cls := findClass_of_methodNamed B.named
  have hlocks := B.notSynchronized
  have hM : tw_M D vwCl mX_a q s.heap u z s.heap [] := ⟨hP, va_S.rf⟩
  have hl := lv_entry ([.ref (u 0)]) (n := 10) (Nat.le_of_ble_eq_true rfl)
  rw [lg_entry_eq]
  generalize (lg_sl ([.ref (u 0)]) ++ List.replicate (10 - (lg_sl ([.ref (u 0)])).length) Slot.unset).toArray = ls at hl ⊢
  have hl : lv_has ls 10 [(0, .ref (u 0))] := hl
  refine ow_named (fun QQ hQQ => ?_)
  generalize ([.ref (u 0)] : List Value).toArray = args at hts hT hQQ ⊢
  have key : ∀ k : Nat, (∀ (x1 : Int32) (x2 : Int32) (x3 : Int32) (x4 : Int32) (x5 : Int32) (x6 : Int32) (x7 : Int32) (x8 : Int32) (x9 : Int32) (t0 : Int32) (z : ow_MS) (H : Heap) (locs : List Loc) (ls : Array Slot), tw_M D vwCl mX_a q s.heap u z H locs → lv_has ls 10 [(0, .ref (u 0))] → q_X13_makeSimples_a K k 0 x1 x2 x3 x4 x5 x6 x7 x8 x9 t0 z = some z1 → W p l e ({ frames := 2, cells := 0, slots := 0, locals := 59 } : Room) s m args below meth c H locs 0 0 QQ (F0 m 0 ls [])) ∧ (∀ (x1 : Int32) (x2 : Int32) (x3 : Int32) (x4 : Int32) (x5 : Int32) (x6 : Int32) (x7 : Int32) (x8 : Int32) (x9 : Int32) (t0 : Int32) (z : ow_MS) (H : Heap) (locs : List Loc) (ls : Array Slot), tw_M D vwCl mX_a q s.heap u z H locs → lv_has ls 10 [(0, .ref (u 0)), (1, .int x1)] → q_X13_makeSimples_a K k 1 x1 x2 x3 x4 x5 x6 x7 x8 x9 t0 z = some z1 → W p l e ({ frames := 2, cells := 0, slots := 0, locals := 59 } : Room) s m args below meth c H locs 0 0 QQ (F0 m 2 ls [])) ∧ (∀ (x1 : Int32) (x2 : Int32) (x3 : Int32) (x4 : Int32) (x5 : Int32) (x6 : Int32) (x7 : Int32) (x8 : Int32) (x9 : Int32) (t0 : Int32) (z : ow_MS) (H : Heap) (locs : List Loc) (ls : Array Slot), tw_M D vwCl mX_a q s.heap u z H locs → lv_has ls 10 [(0, .ref (u 0)), (1, .int x1), (2, .int x2)] → q_X13_makeSimples_a K k 2 x1 x2 x3 x4 x5 x6 x7 x8 x9 t0 z = some z1 → W p l e ({ frames := 2, cells := 0, slots := 0, locals := 59 } : Room) s m args below meth c H locs 0 0 QQ (F0 m 9 ls [])) ∧ (∀ (x1 : Int32) (x2 : Int32) (x3 : Int32) (x4 : Int32) (x5 : Int32) (x6 : Int32) (x7 : Int32) (x8 : Int32) (x9 : Int32) (t0 : Int32) (z : ow_MS) (H : Heap) (locs : List Loc) (ls : Array Slot), tw_M D vwCl mX_a q s.heap u z H locs → lv_has ls 10 [(0, .ref (u 0)), (1, .int x1), (2, .int x2)] → q_X13_makeSimples_a K k 3 x1 x2 x3 x4 x5 x6 x7 x8 x9 t0 z = some z1 → W p l e ({ frames := 2, cells := 0, slots := 0, locals := 59 } : Room) s m args below meth c H locs 0 0 QQ (F0 m 42 ls [])) ∧ (∀ (x1 : Int32) (x2 : Int32) (x3 : Int32) (x4 : Int32) (x5 : Int32) (x6 : Int32) (x7 : Int32) (x8 : Int32) (x9 : Int32) (t0 : Int32) (z : ow_MS) (H : Heap) (locs : List Loc) (ls : Array Slot), tw_M D vwCl mX_a q s.heap u z H locs → lv_has ls 10 [(0, .ref (u 0)), (1, .int x1), (2, .int x2), (3, .int x3), (4, .int x4)] → q_X13_makeSimples_a K k 4 x1 x2 x3 x4 x5 x6 x7 x8 x9 t0 z = some z1 → W p l e ({ frames := 2, cells := 0, slots := 0, locals := 59 } : Room) s m args below meth c H locs 0 0 QQ (F0 m 62 ls [])) ∧ (∀ (x1 : Int32) (x2 : Int32) (x3 : Int32) (x4 : Int32) (x5 : Int32) (x6 : Int32) (x7 : Int32) (x8 : Int32) (x9 : Int32) (t0 : Int32) (z : ow_MS) (H : Heap) (locs : List Loc) (ls : Array Slot), tw_M D vwCl mX_a q s.heap u z H locs → lv_has ls 10 [(0, .ref (u 0)), (1, .int x1), (2, .int x2), (3, .int x3), (4, .int x4), (5, .int x5), (6, .int x6), (7, .int x7)] → q_X13_makeSimples_a K k 5 x1 x2 x3 x4 x5 x6 x7 x8 x9 t0 z = some z1 → W p l e ({ frames := 2, cells := 0, slots := 0, locals := 59 } : Room) s m args below meth c H locs 0 0 QQ (F0 m 79 ls [])) ∧ (∀ (x1 : Int32) (x2 : Int32) (x3 : Int32) (x4 : Int32) (x5 : Int32) (x6 : Int32) (x7 : Int32) (x8 : Int32) (x9 : Int32) (t0 : Int32) (z : ow_MS) (H : Heap) (locs : List Loc) (ls : Array Slot), tw_M D vwCl mX_a q s.heap u z H locs → lv_has ls 10 [(0, .ref (u 0)), (1, .int x1), (2, .int x2), (3, .int x3), (4, .int x4), (5, .int x5), (6, .int x6), (7, .int x7)] → q_X13_makeSimples_a K k 6 x1 x2 x3 x4 x5 x6 x7 x8 x9 t0 z = some z1 → W p l e ({ frames := 2, cells := 0, slots := 0, locals := 59 } : Room) s m args below meth c H locs 0 0 QQ (F0 m 122 ls [.int t0])) ∧ (∀ (x1 : Int32) (x2 : Int32) (x3 : Int32) (x4 : Int32) (x5 : Int32) (x6 : Int32) (x7 : Int32) (x8 : Int32) (x9 : Int32) (t0 : Int32) (z : ow_MS) (H : Heap) (locs : List Loc) (ls : Array Slot), tw_M D vwCl mX_a q s.heap u z H locs → lv_has ls 10 [(0, .ref (u 0)), (1, .int x1), (2, .int x2), (3, .int x3), (4, .int x4), (5, .int x5), (6, .int x6), (7, .int x7)] → q_X13_makeSimples_a K k 7 x1 x2 x3 x4 x5 x6 x7 x8 x9 t0 z = some z1 → W p l e ({ frames := 2, cells := 0, slots := 0, locals := 59 } : Room) s m args below meth c H locs 0 0 QQ (F0 m 145 ls [.int t0])) ∧ (∀ (x1 : Int32) (x2 : Int32) (x3 : Int32) (x4 : Int32) (x5 : Int32) (x6 : Int32) (x7 : Int32) (x8 : Int32) (x9 : Int32) (t0 : Int32) (z : ow_MS) (H : Heap) (locs : List Loc) (ls : Array Slot), tw_M D vwCl mX_a q s.heap u z H locs → lv_has ls 10 [(0, .ref (u 0)), (1, .int x1), (2, .int x2), (3, .int x3), (4, .int x4), (5, .int x5), (6, .int x6), (7, .int x7), (8, .int x8), (9, .int x9)] → q_X13_makeSimples_a K k 8 x1 x2 x3 x4 x5 x6 x7 x8 x9 t0 z = some z1 → W p l e ({ frames := 2, cells := 0, slots := 0, locals := 59 } : Room) s m args below meth c H locs 0 0 QQ (F0 m 229 ls [])) ∧ (∀ (x1 : Int32) (x2 : Int32) (x3 : Int32) (x4 : Int32) (x5 : Int32) (x6 : Int32) (x7 : Int32) (x8 : Int32) (x9 : Int32) (t0 : Int32) (z : ow_MS) (H : Heap) (locs : List Loc) (ls : Array Slot), tw_M D vwCl mX_a q s.heap u z H locs → lv_has ls 10 [(0, .ref (u 0)), (1, .int x1), (2, .int x2), (3, .int x3), (4, .int x4), (5, .int x5), (6, .int x6), (7, .int x7), (8, .int x8), (9, .int x9)] → q_X13_makeSimples_a K k 9 x1 x2 x3 x4 x5 x6 x7 x8 x9 t0 z = some z1 → W p l e ({ frames := 2, cells := 0, slots := 0, locals := 59 } : Room) s m args below meth c H locs 0 0 QQ (F0 m 278 ls [])) ∧ (∀ (x1 : Int32) (x2 : Int32) (x3 : Int32) (x4 : Int32) (x5 : Int32) (x6 : Int32) (x7 : Int32) (x8 : Int32) (x9 : Int32) (t0 : Int32) (z : ow_MS) (H : Heap) (locs : List Loc) (ls : Array Slot), tw_M D vwCl mX_a q s.heap u z H locs → lv_has ls 10 [(0, .ref (u 0)), (1, .int x1), (2, .int x2), (3, .int x3), (4, .int x4), (5, .int x5), (6, .int x6), (7, .int x7)] → q_X13_makeSimples_a K k 10 x1 x2 x3 x4 x5 x6 x7 x8 x9 t0 z = some z1 → W p l e ({ frames := 2, cells := 0, slots := 0, locals := 59 } : Room) s m args below meth c H locs 0 0 QQ (F0 m 349 ls [])) ∧ (∀ (x1 : Int32) (x2 : Int32) (x3 : Int32) (x4 : Int32) (x5 : Int32) (x6 : Int32) (x7 : Int32) (x8 : Int32) (x9 : Int32) (t0 : Int32) (z : ow_MS) (H : Heap) (locs : List Loc) (ls : Array Slot), tw_M D vwCl mX_a q s.heap u z H locs → lv_has ls 10 [(0, .ref (u 0)), (1, .int x1), (2, .int x2), (3, .int x3), (4, .int x4), (5, .int x5), (6, .int x6), (7, .int x7)] → q_X13_makeSimples_a K k 11 x1 x2 x3 x4 x5 x6 x7 x8 x9 t0 z = some z1 → W p l e ({ frames := 2, cells := 0, slots := 0, locals := 59 } : Room) s m args below meth c H locs 0 0 QQ (F0 m 362 ls [])) ∧ (∀ (x1 : Int32) (x2 : Int32) (x3 : Int32) (x4 : Int32) (x5 : Int32) (x6 : Int32) (x7 : Int32) (x8 : Int32) (x9 : Int32) (t0 : Int32) (z : ow_MS) (H : Heap) (locs : List Loc) (ls : Array Slot), tw_M D vwCl mX_a q s.heap u z H locs → lv_has ls 10 [(0, .ref (u 0)), (1, .int x1), (2, .int x2)] → q_X13_makeSimples_a K k 12 x1 x2 x3 x4 x5 x6 x7 x8 x9 t0 z = some z1 → W p l e ({ frames := 2, cells := 0, slots := 0, locals := 59 } : Room) s m args below meth c H locs 0 0 QQ (F0 m 381 ls [])) ∧ (∀ (x1 : Int32) (x2 : Int32) (x3 : Int32) (x4 : Int32) (x5 : Int32) (x6 : Int32) (x7 : Int32) (x8 : Int32) (x9 : Int32) (t0 : Int32) (z : ow_MS) (H : Heap) (locs : List Loc) (ls : Array Slot), tw_M D vwCl mX_a q s.heap u z H locs → lv_has ls 10 [(0, .ref (u 0)), (1, .int x1), (2, .int x2), (3, .int x3)] → q_X13_makeSimples_a K k 13 x1 x2 x3 x4 x5 x6 x7 x8 x9 t0 z = some z1 → W p l e ({ frames := 2, cells := 0, slots := 0, locals := 59 } : Room) s m args below meth c H locs 0 0 QQ (F0 m 393 ls [])) := by
    intro k
    induction k with
    | zero => exact ⟨fun _ _ _ _ _ _ _ _ _ _ _ _ _ _  _ _ hq => tw_no hq, fun _ _ _ _ _ _ _ _ _ _ _ _ _ _  _ _ hq => tw_no hq, fun _ _ _ _ _ _ _ _ _ _ _ _ _ _  _ _ hq => tw_no hq, fun _ _ _ _ _ _ _ _ _ _ _ _ _ _  _ _ hq => tw_no hq, fun _ _ _ _ _ _ _ _ _ _ _ _ _ _  _ _ hq => tw_no hq, fun _ _ _ _ _ _ _ _ _ _ _ _ _ _  _ _ hq => tw_no hq, fun _ _ _ _ _ _ _ _ _ _ _ _ _ _  _ _ hq => tw_no hq, fun _ _ _ _ _ _ _ _ _ _ _ _ _ _  _ _ hq => tw_no hq, fun _ _ _ _ _ _ _ _ _ _ _ _ _ _  _ _ hq => tw_no hq, fun _ _ _ _ _ _ _ _ _ _ _ _ _ _  _ _ hq => tw_no hq, fun _ _ _ _ _ _ _ _ _ _ _ _ _ _  _ _ hq => tw_no hq, fun _ _ _ _ _ _ _ _ _ _ _ _ _ _  _ _ hq => tw_no hq, fun _ _ _ _ _ _ _ _ _ _ _ _ _ _  _ _ hq => tw_no hq, fun _ _ _ _ _ _ _ _ _ _ _ _ _ _  _ _ hq => tw_no hq⟩
    | succ k ih =>
      obtain ⟨ih_0, ih_1, ih_2, ih_3, ih_4, ih_5, ih_6, ih_7, ih_8, ih_9, ih_10, ih_11, ih_12, ih_13⟩ := ih
      refine ⟨?_, ?_, ?_, ?_, ?_, ?_, ?_, ?_, ?_, ?_, ?_, ?_, ?_, ?_⟩
      · intro x1 x2 x3 x4 x5 x6 x7 x8 x9 t0 z H locs ls  hM hl hq
        have hq : qm_X13_makeSimples_0_a K (q_X13_makeSimples_a K k) x1 x2 x3 x4 x5 x6 x7 x8 x9 t0 z = some z1 := hq
        unfold qm_X13_makeSimples_0_a at hq
        refine lv_iconst (v := 2) hx hb dmX13_makeSimples_0_a (by decide) ?_
        refine lv_istore_n (lv' := [(1, .int 2), (0, .ref (u 0))]) hx hb dmX13_makeSimples_1_a rfl hl (by decide) rfl (fun ls hl => ?_)
        exact ih_1 2 0 0 0 0 0 0 0 0 0 z H locs ls hM (lv_sub hl [1, 0] rfl) hq
      · intro x1 x2 x3 x4 x5 x6 x7 x8 x9 t0 z H locs ls  hM hl hq
        have hq : qm_X13_makeSimples_1_a K (q_X13_makeSimples_a K k) x1 x2 x3 x4 x5 x6 x7 x8 x9 t0 z = some z1 := hq
        unfold qm_X13_makeSimples_1_a at hq
        refine lv_iload_n hx hb dmX13_makeSimples_2_a rfl (lv_at hl 1 rfl) ?_
        refine lv_iconst (v := 5) hx hb dmX13_makeSimples_3_a (by decide) ?_
        refine lv_icmp_gt (tgt := 425) hx hb dmX13_makeSimples_4_a (by decide) (fun hc => ?_) (fun hc => ?_)
        · have hq := tw_it hq hc
          exact mw_vret_a hx hb hr hlocks hM hq hQQ dmX13_makeSimples_425_a
        · have hq := tw_if hq hc
          refine lv_iconst (v := 0) hx hb dmX13_makeSimples_7_a (by decide) ?_
          refine lv_istore_n (lv' := [(2, .int 0), (0, .ref (u 0)), (1, .int x1)]) hx hb dmX13_makeSimples_8_a rfl hl (by decide) rfl (fun ls hl => ?_)
          exact ih_2 x1 0 0 0 0 0 0 0 0 0 z H locs ls hM (lv_sub hl [1, 2, 0] rfl) hq
      · intro x1 x2 x3 x4 x5 x6 x7 x8 x9 t0 z H locs ls  hM hl hq
        have hq : qm_X13_makeSimples_2_a K (q_X13_makeSimples_a K k) x1 x2 x3 x4 x5 x6 x7 x8 x9 t0 z = some z1 := hq
        unfold qm_X13_makeSimples_2_a at hq
        refine lv_iload_n hx hb dmX13_makeSimples_9_a rfl (lv_at hl 2 rfl) ?_
        refine lv_iload_n hx hb dmX13_makeSimples_10_a rfl (lv_at hl 1 rfl) ?_
        refine lv_icmp_ge (tgt := 33) hx hb dmX13_makeSimples_11_a (by decide) (fun hc => ?_) (fun hc => ?_)
        · have hq := tw_it hq hc
          refine lv_aload_n hx hb dmX13_makeSimples_33_a rfl (lv_at hl 0 rfl) ?_
          refine mg13_329_a hx hb hT hown hK hM dmX13_makeSimples_34_a ?_
          refine lv_iload_n hx hb dmX13_makeSimples_37_a rfl (lv_at hl 1 rfl) ?_
          refine lv_iconst (v := 1) hx hb dmX13_makeSimples_38_a (by decide) ?_
          refine tw_iast mX_ok_a hU hx hb hK hM mr_97_a hq dmX13_makeSimples_39_a (fun z1 H locs hM hq => ?_)
          refine lv_iconst (v := 0) hx hb dmX13_makeSimples_40_a (by decide) ?_
          refine lv_istore_n (lv' := [(2, .int 0), (0, .ref (u 0)), (1, .int x1)]) hx hb dmX13_makeSimples_41_a rfl hl (by decide) rfl (fun ls hl => ?_)
          exact ih_3 x1 0 0 0 0 0 0 0 0 0 z1 H locs ls hM (lv_sub hl [1, 2, 0] rfl) hq
        · have hq := tw_if hq hc
          refine lv_aload_n hx hb dmX13_makeSimples_14_a rfl (lv_at hl 0 rfl) ?_
          refine mg13_332_a hx hb hT hown hK hM dmX13_makeSimples_15_a ?_
          refine lv_sipush (v := 600) hx hb dmX13_makeSimples_18_a (by decide) ?_
          refine lv_iload_n hx hb dmX13_makeSimples_21_a rfl (lv_at hl 1 rfl) ?_
          refine lv_imul hx hb dmX13_makeSimples_22_a ?_
          refine lv_iload_n hx hb dmX13_makeSimples_23_a rfl (lv_at hl 2 rfl) ?_
          refine lv_iadd hx hb dmX13_makeSimples_24_a ?_
          refine lv_iload_n hx hb dmX13_makeSimples_25_a rfl (lv_at hl 2 rfl) ?_
          refine tw_iast mX_ok_a hU hx hb hK hM mr_98_a hq dmX13_makeSimples_26_a (fun z2 H locs hM hq => ?_)
          refine lv_iinc (v := (x2 + 1)) (lv' := [(2, .int (x2 + 1)), (0, .ref (u 0)), (1, .int x1)]) hx hb dmX13_makeSimples_27_a hl (k := 2) rfl rfl (by decide) rfl (fun ls hl => ?_)
          refine lv_goto (tgt := 9) hx hb dmX13_makeSimples_30_a (by decide) ?_
          exact ih_2 x1 (x2 + 1) 0 0 0 0 0 0 0 0 z2 H locs ls hM (lv_sub hl [1, 2, 0] rfl) hq
      · intro x1 x2 x3 x4 x5 x6 x7 x8 x9 t0 z H locs ls  hM hl hq
        have hq : qm_X13_makeSimples_3_a K (q_X13_makeSimples_a K k) x1 x2 x3 x4 x5 x6 x7 x8 x9 t0 z = some z1 := hq
        unfold qm_X13_makeSimples_3_a at hq
        refine lv_iload_n hx hb dmX13_makeSimples_42_a rfl (lv_at hl 2 rfl) ?_
        refine lv_aload_n hx hb dmX13_makeSimples_43_a rfl (lv_at hl 0 rfl) ?_
        refine mg13_329_a hx hb hT hown hK hM dmX13_makeSimples_44_a ?_
        refine lv_iload_n hx hb dmX13_makeSimples_47_a rfl (lv_at hl 1 rfl) ?_
        refine tw_iald mX_ok_a hx hb hK hM mr_97_a hq dmX13_makeSimples_48_a (fun v3 hq => ?_)
        refine lv_icmp_ge (tgt := 374) hx hb dmX13_makeSimples_49_a (by decide) (fun hc => ?_) (fun hc => ?_)
        · have hq := tw_it hq hc
          refine lv_aload_n hx hb dmX13_makeSimples_374_a rfl (lv_at hl 0 rfl) ?_
          refine lv_iload_n hx hb dmX13_makeSimples_375_a rfl (lv_at hl 1 rfl) ?_
          obtain ⟨z4, hcq, hq⟩ := tw_cl0 hq
          refine tw_calv hM (va_runV (As := [.int x1]) (rest := []) ⟨hx, hb, hml, hown, hts⟩ (km_X13_makeTurned_a l D q u hU K x1 z z4 hcq) (cwV 1 hts (tw_gV wM_good_a wq_24_a wq_25_a wq_26_a wq_22_a wq_23_a) rfl rfl rfl cd_X13_makeTurned_a ⟨(Nat.le_of_ble_eq_true rfl), (Nat.le_of_ble_eq_true rfl)⟩) (mw_preV_a hK hN hM mo_0_a rfl) rfl rfl hl.1 rfl (lv_room (Nat.le_of_ble_eq_true rfl)) dmX13_makeSimples_376_a ⟨(Nat.le_of_ble_eq_true rfl), (Nat.le_of_ble_eq_true rfl)⟩) (fun H locs hM => ?_)
          refine lv_iconst (v := 0) hx hb dmX13_makeSimples_379_a (by decide) ?_
          refine lv_istore_n (lv' := [(2, .int 0), (0, .ref (u 0)), (1, .int x1)]) hx hb dmX13_makeSimples_380_a rfl hl (by decide) rfl (fun ls hl => ?_)
          exact ih_12 x1 0 0 0 0 0 0 0 0 0 z4 H locs ls hM (lv_sub hl [1, 2, 0] rfl) hq
        · have hq := tw_if hq hc
          refine lv_bipush (v := 120) hx hb dmX13_makeSimples_52_a (by decide) ?_
          refine lv_iload_n hx hb dmX13_makeSimples_54_a rfl (lv_at hl 1 rfl) ?_
          refine lv_imul hx hb dmX13_makeSimples_55_a ?_
          refine lv_iload_n hx hb dmX13_makeSimples_56_a rfl (lv_at hl 2 rfl) ?_
          refine lv_iadd hx hb dmX13_makeSimples_57_a ?_
          refine lv_istore_n (lv' := [(3, .int ((120 * x1) + x2)), (0, .ref (u 0)), (1, .int x1), (2, .int x2)]) hx hb dmX13_makeSimples_58_a rfl hl (by decide) rfl (fun ls hl => ?_)
          refine lv_iconst (v := 0) hx hb dmX13_makeSimples_59_a (by decide) ?_
          refine lv_istore (lv' := [(4, .int 0), (3, .int ((120 * x1) + x2)), (0, .ref (u 0)), (1, .int x1), (2, .int x2)]) hx hb dmX13_makeSimples_60_a hl (by decide) rfl (fun ls hl => ?_)
          exact ih_4 x1 x2 ((120 * x1) + x2) 0 0 0 0 0 0 0 z H locs ls hM (lv_sub hl [2, 3, 4, 1, 0] rfl) hq
      · intro x1 x2 x3 x4 x5 x6 x7 x8 x9 t0 z H locs ls  hM hl hq
        have hq : qm_X13_makeSimples_4_a K (q_X13_makeSimples_a K k) x1 x2 x3 x4 x5 x6 x7 x8 x9 t0 z = some z1 := hq
        unfold qm_X13_makeSimples_4_a at hq
        refine lv_iload hx hb dmX13_makeSimples_62_a (lv_at hl 4 rfl) ?_
        refine lv_iload_n hx hb dmX13_makeSimples_64_a rfl (lv_at hl 1 rfl) ?_
        refine lv_iconst (v := 1) hx hb dmX13_makeSimples_65_a (by decide) ?_
        refine lv_isub hx hb dmX13_makeSimples_66_a ?_
        refine lv_icmp_ge (tgt := 368) hx hb dmX13_makeSimples_67_a (by decide) (fun hc => ?_) (fun hc => ?_)
        · have hq := tw_it hq hc
          refine lv_iinc (v := (x2 + 1)) (lv' := [(2, .int (x2 + 1)), (0, .ref (u 0)), (1, .int x1), (3, .int x3), (4, .int x4)]) hx hb dmX13_makeSimples_368_a hl (k := 2) rfl rfl (by decide) rfl (fun ls hl => ?_)
          refine lv_goto (tgt := 42) hx hb dmX13_makeSimples_371_a (by decide) ?_
          exact ih_3 x1 (x2 + 1) 0 0 0 0 0 0 0 0 z H locs ls hM (lv_sub hl [1, 2, 0] rfl) hq
        · have hq := tw_if hq hc
          refine lv_iconst (v := 0) hx hb dmX13_makeSimples_70_a (by decide) ?_
          refine lv_istore (lv' := [(5, .int 0), (0, .ref (u 0)), (1, .int x1), (2, .int x2), (3, .int x3), (4, .int x4)]) hx hb dmX13_makeSimples_71_a hl (by decide) rfl (fun ls hl => ?_)
          refine lv_iconst (v := 0) hx hb dmX13_makeSimples_73_a (by decide) ?_
          refine lv_istore (lv' := [(6, .int 0), (5, .int 0), (0, .ref (u 0)), (1, .int x1), (2, .int x2), (3, .int x3), (4, .int x4)]) hx hb dmX13_makeSimples_74_a hl (by decide) rfl (fun ls hl => ?_)
          refine lv_iconst (v := 0) hx hb dmX13_makeSimples_76_a (by decide) ?_
          refine lv_istore (lv' := [(7, .int 0), (6, .int 0), (5, .int 0), (0, .ref (u 0)), (1, .int x1), (2, .int x2), (3, .int x3), (4, .int x4)]) hx hb dmX13_makeSimples_77_a hl (by decide) rfl (fun ls hl => ?_)
          exact ih_5 x1 x2 x3 x4 0 0 0 0 0 0 z H locs ls hM (lv_sub hl [3, 4, 5, 6, 7, 2, 1, 0] rfl) hq
      · intro x1 x2 x3 x4 x5 x6 x7 x8 x9 t0 z H locs ls  hM hl hq
        have hq : qm_X13_makeSimples_5_a K (q_X13_makeSimples_a K k) x1 x2 x3 x4 x5 x6 x7 x8 x9 t0 z = some z1 := hq
        unfold qm_X13_makeSimples_5_a at hq
        refine lv_iload hx hb dmX13_makeSimples_79_a (lv_at hl 7 rfl) ?_
        refine lv_iload_n hx hb dmX13_makeSimples_81_a rfl (lv_at hl 1 rfl) ?_
        refine lv_icmp_ge (tgt := 153) hx hb dmX13_makeSimples_82_a (by decide) (fun hc => ?_) (fun hc => ?_)
        · have hq := tw_it hq hc
          refine lv_aload_n hx hb dmX13_makeSimples_153_a rfl (lv_at hl 0 rfl) ?_
          refine mg13_341_a hx hb hT hown hK hM dmX13_makeSimples_154_a ?_
          refine lv_iconst (v := 4) hx hb dmX13_makeSimples_157_a (by decide) ?_
          refine lv_iload_n hx hb dmX13_makeSimples_158_a rfl (lv_at hl 3 rfl) ?_
          refine lv_imul hx hb dmX13_makeSimples_159_a ?_
          refine lv_iload hx hb dmX13_makeSimples_160_a (lv_at hl 4 rfl) ?_
          refine lv_iadd hx hb dmX13_makeSimples_162_a ?_
          refine lv_iconst (v := (-1)) hx hb dmX13_makeSimples_163_a (by decide) ?_
          refine tw_iast mX_ok_a hU hx hb hK hM mr_101_a hq dmX13_makeSimples_164_a (fun z5 H locs hM hq => ?_)
          refine lv_iload hx hb dmX13_makeSimples_165_a (lv_at hl 5 rfl) ?_
          refine lv_iload hx hb dmX13_makeSimples_167_a (lv_at hl 6 rfl) ?_
          refine lv_icmp_ge (tgt := 362) hx hb dmX13_makeSimples_169_a (by decide) (fun hc => ?_) (fun hc => ?_)
          · have hq := tw_it hq hc
            exact ih_11 x1 x2 x3 x4 x5 x6 x7 0 0 0 z5 H locs ls hM (lv_sub hl [0, 1, 2, 3, 4, 5, 6, 7] rfl) hq
          · have hq := tw_if hq hc
            refine lv_aload_n hx hb dmX13_makeSimples_172_a rfl (lv_at hl 0 rfl) ?_
            refine mg13_356_a hx hb hT hown hK hM dmX13_makeSimples_173_a ?_
            refine lv_iload hx hb dmX13_makeSimples_176_a (lv_at hl 5 rfl) ?_
            refine lv_iload hx hb dmX13_makeSimples_178_a (lv_at hl 4 rfl) ?_
            refine lv_iconst (v := 1) hx hb dmX13_makeSimples_180_a (by decide) ?_
            refine lv_iadd hx hb dmX13_makeSimples_181_a ?_
            refine tw_iast mX_ok_a hU hx hb hK hM mr_106_a hq dmX13_makeSimples_182_a (fun z6 H locs hM hq => ?_)
            refine lv_aload_n hx hb dmX13_makeSimples_183_a rfl (lv_at hl 0 rfl) ?_
            refine mg13_356_a hx hb hT hown hK hM dmX13_makeSimples_184_a ?_
            refine lv_iload hx hb dmX13_makeSimples_187_a (lv_at hl 6 rfl) ?_
            refine lv_iload hx hb dmX13_makeSimples_189_a (lv_at hl 4 rfl) ?_
            refine tw_iast mX_ok_a hU hx hb hK hM mr_106_a hq dmX13_makeSimples_191_a (fun z7 H locs hM hq => ?_)
            refine lv_aload_n hx hb dmX13_makeSimples_192_a rfl (lv_at hl 0 rfl) ?_
            refine lv_iload_n hx hb dmX13_makeSimples_193_a rfl (lv_at hl 1 rfl) ?_
            refine lv_aload_n hx hb dmX13_makeSimples_194_a rfl (lv_at hl 0 rfl) ?_
            refine mg13_356_a hx hb hT hown hK hM dmX13_makeSimples_195_a ?_
            obtain ⟨v9, z8, hcq, hq⟩ := tw_cl1 hq
            refine tw_cali hM (va_runV (As := [.int x1, .ref (u 106)]) (rest := []) ⟨hx, hb, hml, hown, hts⟩ (km_X13_find_a l D q u hU K x1 106 mr_106_a z7 z8 v9 hcq) (cwV 2 hts (tw_gV wM_good_a wq_19_a wq_20_a wq_21_a wq_22_a wq_2_a) rfl rfl rfl cd_X13_find_a ⟨(Nat.le_of_ble_eq_true rfl), (Nat.le_of_ble_eq_true rfl)⟩) (mw_preV_a hK hN hM mo_0_a rfl) rfl rfl hl.1 rfl (lv_room (Nat.le_of_ble_eq_true rfl)) dmX13_makeSimples_198_a ⟨(Nat.le_of_ble_eq_true rfl), (Nat.le_of_ble_eq_true rfl)⟩) (fun H locs hM => ?_)
            refine lv_istore (lv' := [(7, .int v9), (0, .ref (u 0)), (1, .int x1), (2, .int x2), (3, .int x3), (4, .int x4), (5, .int x5), (6, .int x6)]) hx hb dmX13_makeSimples_201_a hl (by decide) rfl (fun ls hl => ?_)
            refine lv_iload hx hb dmX13_makeSimples_203_a (lv_at hl 0 rfl) ?_
            refine lv_iconst (v := (-1)) hx hb dmX13_makeSimples_205_a (by decide) ?_
            refine lv_icmp_ne (tgt := 349) hx hb dmX13_makeSimples_206_a (by decide) (fun hc => ?_) (fun hc => ?_)
            · have hq := tw_if hq hc
              exact ih_10 x1 x2 x3 x4 x5 x6 v9 0 0 0 z8 H locs ls hM (lv_sub hl [1, 2, 3, 4, 5, 6, 7, 0] rfl) hq
            · have hq := tw_it hq hc
              refine lv_aload_n hx hb dmX13_makeSimples_209_a rfl (lv_at hl 1 rfl) ?_
              refine mg13_329_a hx hb hT hown hK hM dmX13_makeSimples_210_a ?_
              refine lv_iload_n hx hb dmX13_makeSimples_213_a rfl (lv_at hl 2 rfl) ?_
              refine tw_iald mX_ok_a hx hb hK hM mr_97_a hq dmX13_makeSimples_214_a (fun v10 hq => ?_)
              refine lv_istore (lv' := [(7, .int v10), (0, .ref (u 0)), (1, .int x1), (2, .int x2), (3, .int x3), (4, .int x4), (5, .int x5), (6, .int x6)]) hx hb dmX13_makeSimples_215_a hl (by decide) rfl (fun ls hl => ?_)
              refine lv_bipush (v := 120) hx hb dmX13_makeSimples_217_a (by decide) ?_
              refine lv_iload_n hx hb dmX13_makeSimples_219_a rfl (lv_at hl 2 rfl) ?_
              refine lv_imul hx hb dmX13_makeSimples_220_a ?_
              refine lv_iload hx hb dmX13_makeSimples_221_a (lv_at hl 0 rfl) ?_
              refine lv_iadd hx hb dmX13_makeSimples_223_a ?_
              refine lv_istore (lv' := [(8, .int ((120 * x1) + v10)), (7, .int v10), (0, .ref (u 0)), (1, .int x1), (2, .int x2), (3, .int x3), (4, .int x4), (5, .int x5), (6, .int x6)]) hx hb dmX13_makeSimples_224_a hl (by decide) rfl (fun ls hl => ?_)
              refine lv_iconst (v := 0) hx hb dmX13_makeSimples_226_a (by decide) ?_
              refine lv_istore (lv' := [(9, .int 0), (8, .int ((120 * x1) + v10)), (7, .int v10), (0, .ref (u 0)), (1, .int x1), (2, .int x2), (3, .int x3), (4, .int x4), (5, .int x5), (6, .int x6)]) hx hb dmX13_makeSimples_227_a hl (by decide) rfl (fun ls hl => ?_)
              exact ih_8 x1 x2 x3 x4 x5 x6 v10 ((120 * x1) + v10) 0 0 z8 H locs ls hM (lv_sub hl [3, 4, 5, 6, 7, 8, 9, 2, 1, 0] rfl) hq
        · have hq := tw_if hq hc
          refine lv_aload_n hx hb dmX13_makeSimples_85_a rfl (lv_at hl 0 rfl) ?_
          refine mg13_356_a hx hb hT hown hK hM dmX13_makeSimples_86_a ?_
          refine lv_iload hx hb dmX13_makeSimples_89_a (lv_at hl 7 rfl) ?_
          refine lv_aload_n hx hb dmX13_makeSimples_91_a rfl (lv_at hl 0 rfl) ?_
          refine mg13_332_a hx hb hT hown hK hM dmX13_makeSimples_92_a ?_
          refine lv_iconst (v := 5) hx hb dmX13_makeSimples_95_a (by decide) ?_
          refine lv_iload_n hx hb dmX13_makeSimples_96_a rfl (lv_at hl 3 rfl) ?_
          refine lv_imul hx hb dmX13_makeSimples_97_a ?_
          refine lv_iload hx hb dmX13_makeSimples_98_a (lv_at hl 7 rfl) ?_
          refine lv_iadd hx hb dmX13_makeSimples_100_a ?_
          refine tw_iald mX_ok_a hx hb hK hM mr_98_a hq dmX13_makeSimples_101_a (fun v11 hq => ?_)
          refine tw_iast mX_ok_a hU hx hb hK hM mr_106_a hq dmX13_makeSimples_102_a (fun z12 H locs hM hq => ?_)
          refine lv_aload_n hx hb dmX13_makeSimples_103_a rfl (lv_at hl 0 rfl) ?_
          refine mg13_356_a hx hb hT hown hK hM dmX13_makeSimples_104_a ?_
          refine lv_iload hx hb dmX13_makeSimples_107_a (lv_at hl 7 rfl) ?_
          refine tw_iald mX_ok_a hx hb hK hM mr_106_a hq dmX13_makeSimples_109_a (fun v13 hq => ?_)
          refine lv_iload hx hb dmX13_makeSimples_110_a (lv_at hl 4 rfl) ?_
          refine lv_icmp_ne (tgt := 120) hx hb dmX13_makeSimples_112_a (by decide) (fun hc => ?_) (fun hc => ?_)
          · have hq := tw_if hq hc
            refine lv_iload hx hb dmX13_makeSimples_120_a (lv_at hl 5 rfl) ?_
            exact ih_6 x1 x2 x3 x4 x5 x6 x7 0 0 x5 z12 H locs ls hM (lv_sub hl [0, 1, 2, 3, 4, 5, 6, 7] rfl) hq
          · have hq := tw_it hq hc
            refine lv_iload hx hb dmX13_makeSimples_115_a (lv_at hl 7 rfl) ?_
            refine lv_goto (tgt := 122) hx hb dmX13_makeSimples_117_a (by decide) ?_
            exact ih_6 x1 x2 x3 x4 x5 x6 x7 0 0 x7 z12 H locs ls hM (lv_sub hl [0, 1, 2, 3, 4, 5, 6, 7] rfl) hq
      · intro x1 x2 x3 x4 x5 x6 x7 x8 x9 t0 z H locs ls  hM hl hq
        have hq : qm_X13_makeSimples_6_a K (q_X13_makeSimples_a K k) x1 x2 x3 x4 x5 x6 x7 x8 x9 t0 z = some z1 := hq
        unfold qm_X13_makeSimples_6_a at hq
        refine lv_istore (lv' := [(5, .int t0), (0, .ref (u 0)), (1, .int x1), (2, .int x2), (3, .int x3), (4, .int x4), (6, .int x6), (7, .int x7)]) hx hb dmX13_makeSimples_122_a hl (by decide) rfl (fun ls hl => ?_)
        refine lv_aload_n hx hb dmX13_makeSimples_124_a rfl (lv_at hl 1 rfl) ?_
        refine mg13_356_a hx hb hT hown hK hM dmX13_makeSimples_125_a ?_
        refine lv_iload hx hb dmX13_makeSimples_128_a (lv_at hl 7 rfl) ?_
        refine tw_iald mX_ok_a hx hb hK hM mr_106_a hq dmX13_makeSimples_130_a (fun v14 hq => ?_)
        refine lv_iload hx hb dmX13_makeSimples_131_a (lv_at hl 5 rfl) ?_
        refine lv_iconst (v := 1) hx hb dmX13_makeSimples_133_a (by decide) ?_
        refine lv_iadd hx hb dmX13_makeSimples_134_a ?_
        refine lv_icmp_ne (tgt := 143) hx hb dmX13_makeSimples_135_a (by decide) (fun hc => ?_) (fun hc => ?_)
        · have hq := tw_if hq hc
          refine lv_iload hx hb dmX13_makeSimples_143_a (lv_at hl 6 rfl) ?_
          exact ih_7 x1 x2 x3 x4 t0 x6 x7 0 0 x6 z H locs ls hM (lv_sub hl [1, 2, 3, 4, 5, 0, 6, 7] rfl) hq
        · have hq := tw_it hq hc
          refine lv_iload hx hb dmX13_makeSimples_138_a (lv_at hl 7 rfl) ?_
          refine lv_goto (tgt := 145) hx hb dmX13_makeSimples_140_a (by decide) ?_
          exact ih_7 x1 x2 x3 x4 t0 x6 x7 0 0 x7 z H locs ls hM (lv_sub hl [1, 2, 3, 4, 5, 0, 6, 7] rfl) hq
      · intro x1 x2 x3 x4 x5 x6 x7 x8 x9 t0 z H locs ls  hM hl hq
        have hq : qm_X13_makeSimples_7_a K (q_X13_makeSimples_a K k) x1 x2 x3 x4 x5 x6 x7 x8 x9 t0 z = some z1 := hq
        unfold qm_X13_makeSimples_7_a at hq
        refine lv_istore (lv' := [(6, .int t0), (0, .ref (u 0)), (1, .int x1), (2, .int x2), (3, .int x3), (4, .int x4), (5, .int x5), (7, .int x7)]) hx hb dmX13_makeSimples_145_a hl (by decide) rfl (fun ls hl => ?_)
        refine lv_iinc (v := (x7 + 1)) (lv' := [(7, .int (x7 + 1)), (6, .int t0), (0, .ref (u 0)), (1, .int x1), (2, .int x2), (3, .int x3), (4, .int x4), (5, .int x5)]) hx hb dmX13_makeSimples_147_a hl (k := 7) rfl rfl (by decide) rfl (fun ls hl => ?_)
        refine lv_goto (tgt := 79) hx hb dmX13_makeSimples_150_a (by decide) ?_
        exact ih_5 x1 x2 x3 x4 x5 t0 (x7 + 1) 0 0 0 z H locs ls hM (lv_sub hl [2, 3, 4, 5, 6, 7, 1, 0] rfl) hq
      · intro x1 x2 x3 x4 x5 x6 x7 x8 x9 t0 z H locs ls  hM hl hq
        have hq : qm_X13_makeSimples_8_a K (q_X13_makeSimples_a K k) x1 x2 x3 x4 x5 x6 x7 x8 x9 t0 z = some z1 := hq
        unfold qm_X13_makeSimples_8_a at hq
        refine lv_iload hx hb dmX13_makeSimples_229_a (lv_at hl 9 rfl) ?_
        refine lv_iload_n hx hb dmX13_makeSimples_231_a rfl (lv_at hl 1 rfl) ?_
        refine lv_icmp_ge (tgt := 260) hx hb dmX13_makeSimples_232_a (by decide) (fun hc => ?_) (fun hc => ?_)
        · have hq := tw_it hq hc
          refine lv_aload_n hx hb dmX13_makeSimples_260_a rfl (lv_at hl 0 rfl) ?_
          refine mg13_338_a hx hb hT hown hK hM dmX13_makeSimples_261_a ?_
          refine lv_iload hx hb dmX13_makeSimples_264_a (lv_at hl 8 rfl) ?_
          refine lv_aload_n hx hb dmX13_makeSimples_266_a rfl (lv_at hl 0 rfl) ?_
          refine mg13_338_a hx hb hT hown hK hM dmX13_makeSimples_267_a ?_
          refine lv_iload_n hx hb dmX13_makeSimples_270_a rfl (lv_at hl 3 rfl) ?_
          refine tw_iald mX_ok_a hx hb hK hM mr_100_a hq dmX13_makeSimples_271_a (fun v15 hq => ?_)
          refine lv_iconst (v := 1) hx hb dmX13_makeSimples_272_a (by decide) ?_
          refine lv_iadd hx hb dmX13_makeSimples_273_a ?_
          refine tw_iast mX_ok_a hU hx hb hK hM mr_100_a hq dmX13_makeSimples_274_a (fun z16 H locs hM hq => ?_)
          refine lv_iconst (v := 0) hx hb dmX13_makeSimples_275_a (by decide) ?_
          refine lv_istore (lv' := [(9, .int 0), (0, .ref (u 0)), (1, .int x1), (2, .int x2), (3, .int x3), (4, .int x4), (5, .int x5), (6, .int x6), (7, .int x7), (8, .int x8)]) hx hb dmX13_makeSimples_276_a hl (by decide) rfl (fun ls hl => ?_)
          exact ih_9 x1 x2 x3 x4 x5 x6 x7 x8 0 0 z16 H locs ls hM (lv_sub hl [1, 2, 3, 4, 5, 6, 7, 8, 9, 0] rfl) hq
        · have hq := tw_if hq hc
          refine lv_aload_n hx hb dmX13_makeSimples_235_a rfl (lv_at hl 0 rfl) ?_
          refine mg13_332_a hx hb hT hown hK hM dmX13_makeSimples_236_a ?_
          refine lv_iconst (v := 5) hx hb dmX13_makeSimples_239_a (by decide) ?_
          refine lv_iload hx hb dmX13_makeSimples_240_a (lv_at hl 8 rfl) ?_
          refine lv_imul hx hb dmX13_makeSimples_242_a ?_
          refine lv_iload hx hb dmX13_makeSimples_243_a (lv_at hl 9 rfl) ?_
          refine lv_iadd hx hb dmX13_makeSimples_245_a ?_
          refine lv_aload_n hx hb dmX13_makeSimples_246_a rfl (lv_at hl 0 rfl) ?_
          refine mg13_356_a hx hb hT hown hK hM dmX13_makeSimples_247_a ?_
          refine lv_iload hx hb dmX13_makeSimples_250_a (lv_at hl 9 rfl) ?_
          refine tw_iald mX_ok_a hx hb hK hM mr_106_a hq dmX13_makeSimples_252_a (fun v17 hq => ?_)
          refine tw_iast mX_ok_a hU hx hb hK hM mr_98_a hq dmX13_makeSimples_253_a (fun z18 H locs hM hq => ?_)
          refine lv_iinc (v := (x9 + 1)) (lv' := [(9, .int (x9 + 1)), (0, .ref (u 0)), (1, .int x1), (2, .int x2), (3, .int x3), (4, .int x4), (5, .int x5), (6, .int x6), (7, .int x7), (8, .int x8)]) hx hb dmX13_makeSimples_254_a hl (k := 9) rfl rfl (by decide) rfl (fun ls hl => ?_)
          refine lv_goto (tgt := 229) hx hb dmX13_makeSimples_257_a (by decide) ?_
          exact ih_8 x1 x2 x3 x4 x5 x6 x7 x8 (x9 + 1) 0 z18 H locs ls hM (lv_sub hl [1, 2, 3, 4, 5, 6, 7, 8, 9, 0] rfl) hq
      · intro x1 x2 x3 x4 x5 x6 x7 x8 x9 t0 z H locs ls  hM hl hq
        have hq : qm_X13_makeSimples_9_a K (q_X13_makeSimples_a K k) x1 x2 x3 x4 x5 x6 x7 x8 x9 t0 z = some z1 := hq
        unfold qm_X13_makeSimples_9_a at hq
        refine lv_iload hx hb dmX13_makeSimples_278_a (lv_at hl 9 rfl) ?_
        refine lv_aload_n hx hb dmX13_makeSimples_280_a rfl (lv_at hl 0 rfl) ?_
        refine mg13_338_a hx hb hT hown hK hM dmX13_makeSimples_281_a ?_
        refine lv_iload_n hx hb dmX13_makeSimples_284_a rfl (lv_at hl 3 rfl) ?_
        refine tw_iald mX_ok_a hx hb hK hM mr_100_a hq dmX13_makeSimples_285_a (fun v19 hq => ?_)
        refine lv_icmp_ge (tgt := 320) hx hb dmX13_makeSimples_286_a (by decide) (fun hc => ?_) (fun hc => ?_)
        · have hq := tw_it hq hc
          refine lv_aload_n hx hb dmX13_makeSimples_320_a rfl (lv_at hl 0 rfl) ?_
          refine mg13_335_a hx hb hT hown hK hM dmX13_makeSimples_321_a ?_
          refine lv_bipush (v := 10) hx hb dmX13_makeSimples_324_a (by decide) ?_
          refine lv_iload hx hb dmX13_makeSimples_326_a (lv_at hl 8 rfl) ?_
          refine lv_imul hx hb dmX13_makeSimples_328_a ?_
          refine lv_aload_n hx hb dmX13_makeSimples_329_a rfl (lv_at hl 0 rfl) ?_
          refine mg13_338_a hx hb hT hown hK hM dmX13_makeSimples_330_a ?_
          refine lv_iload_n hx hb dmX13_makeSimples_333_a rfl (lv_at hl 3 rfl) ?_
          refine tw_iald mX_ok_a hx hb hK hM mr_100_a hq dmX13_makeSimples_334_a (fun v20 hq => ?_)
          refine lv_iadd hx hb dmX13_makeSimples_335_a ?_
          refine lv_iload hx hb dmX13_makeSimples_336_a (lv_at hl 4 rfl) ?_
          refine tw_iast mX_ok_a hU hx hb hK hM mr_99_a hq dmX13_makeSimples_338_a (fun z21 H locs hM hq => ?_)
          refine lv_aload_n hx hb dmX13_makeSimples_339_a rfl (lv_at hl 0 rfl) ?_
          refine mg13_329_a hx hb hT hown hK hM dmX13_makeSimples_340_a ?_
          refine lv_iload_n hx hb dmX13_makeSimples_343_a rfl (lv_at hl 1 rfl) ?_
          refine lv_dup2_11 hx hb dmX13_makeSimples_344_a rfl rfl ?_
          refine tw_iald mX_ok_a hx hb hK hM mr_97_a hq dmX13_makeSimples_345_a (fun v22 hq => ?_)
          refine lv_iconst (v := 1) hx hb dmX13_makeSimples_346_a (by decide) ?_
          refine lv_iadd hx hb dmX13_makeSimples_347_a ?_
          refine tw_iast mX_ok_a hU hx hb hK hM mr_97_a hq dmX13_makeSimples_348_a (fun z23 H locs hM hq => ?_)
          exact ih_10 x1 x2 x3 x4 x5 x6 x7 0 0 0 z23 H locs ls hM (lv_sub hl [0, 1, 2, 3, 4, 5, 6, 7] rfl) hq
        · have hq := tw_if hq hc
          refine lv_aload_n hx hb dmX13_makeSimples_289_a rfl (lv_at hl 0 rfl) ?_
          refine mg13_335_a hx hb hT hown hK hM dmX13_makeSimples_290_a ?_
          refine lv_bipush (v := 10) hx hb dmX13_makeSimples_293_a (by decide) ?_
          refine lv_iload hx hb dmX13_makeSimples_295_a (lv_at hl 8 rfl) ?_
          refine lv_imul hx hb dmX13_makeSimples_297_a ?_
          refine lv_iload hx hb dmX13_makeSimples_298_a (lv_at hl 9 rfl) ?_
          refine lv_iadd hx hb dmX13_makeSimples_300_a ?_
          refine lv_aload_n hx hb dmX13_makeSimples_301_a rfl (lv_at hl 0 rfl) ?_
          refine mg13_335_a hx hb hT hown hK hM dmX13_makeSimples_302_a ?_
          refine lv_bipush (v := 10) hx hb dmX13_makeSimples_305_a (by decide) ?_
          refine lv_iload_n hx hb dmX13_makeSimples_307_a rfl (lv_at hl 3 rfl) ?_
          refine lv_imul hx hb dmX13_makeSimples_308_a ?_
          refine lv_iload hx hb dmX13_makeSimples_309_a (lv_at hl 9 rfl) ?_
          refine lv_iadd hx hb dmX13_makeSimples_311_a ?_
          refine tw_iald mX_ok_a hx hb hK hM mr_99_a hq dmX13_makeSimples_312_a (fun v24 hq => ?_)
          refine tw_iast mX_ok_a hU hx hb hK hM mr_99_a hq dmX13_makeSimples_313_a (fun z25 H locs hM hq => ?_)
          refine lv_iinc (v := (x9 + 1)) (lv' := [(9, .int (x9 + 1)), (0, .ref (u 0)), (1, .int x1), (2, .int x2), (3, .int x3), (4, .int x4), (5, .int x5), (6, .int x6), (7, .int x7), (8, .int x8)]) hx hb dmX13_makeSimples_314_a hl (k := 9) rfl rfl (by decide) rfl (fun ls hl => ?_)
          refine lv_goto (tgt := 278) hx hb dmX13_makeSimples_317_a (by decide) ?_
          exact ih_9 x1 x2 x3 x4 x5 x6 x7 x8 (x9 + 1) 0 z25 H locs ls hM (lv_sub hl [1, 2, 3, 4, 5, 6, 7, 8, 9, 0] rfl) hq
      · intro x1 x2 x3 x4 x5 x6 x7 x8 x9 t0 z H locs ls  hM hl hq
        have hq : qm_X13_makeSimples_10_a K (q_X13_makeSimples_a K k) x1 x2 x3 x4 x5 x6 x7 x8 x9 t0 z = some z1 := hq
        unfold qm_X13_makeSimples_10_a at hq
        refine lv_aload_n hx hb dmX13_makeSimples_349_a rfl (lv_at hl 0 rfl) ?_
        refine mg13_341_a hx hb hT hown hK hM dmX13_makeSimples_350_a ?_
        refine lv_iconst (v := 4) hx hb dmX13_makeSimples_353_a (by decide) ?_
        refine lv_iload_n hx hb dmX13_makeSimples_354_a rfl (lv_at hl 3 rfl) ?_
        refine lv_imul hx hb dmX13_makeSimples_355_a ?_
        refine lv_iload hx hb dmX13_makeSimples_356_a (lv_at hl 4 rfl) ?_
        refine lv_iadd hx hb dmX13_makeSimples_358_a ?_
        refine lv_iload hx hb dmX13_makeSimples_359_a (lv_at hl 7 rfl) ?_
        refine tw_iast mX_ok_a hU hx hb hK hM mr_101_a hq dmX13_makeSimples_361_a (fun z26 H locs hM hq => ?_)
        exact ih_11 x1 x2 x3 x4 x5 x6 x7 0 0 0 z26 H locs ls hM (lv_sub hl [0, 1, 2, 3, 4, 5, 6, 7] rfl) hq
      · intro x1 x2 x3 x4 x5 x6 x7 x8 x9 t0 z H locs ls  hM hl hq
        have hq : qm_X13_makeSimples_11_a K (q_X13_makeSimples_a K k) x1 x2 x3 x4 x5 x6 x7 x8 x9 t0 z = some z1 := hq
        unfold qm_X13_makeSimples_11_a at hq
        refine lv_iinc (v := (x4 + 1)) (lv' := [(4, .int (x4 + 1)), (0, .ref (u 0)), (1, .int x1), (2, .int x2), (3, .int x3), (5, .int x5), (6, .int x6), (7, .int x7)]) hx hb dmX13_makeSimples_362_a hl (k := 4) rfl rfl (by decide) rfl (fun ls hl => ?_)
        refine lv_goto (tgt := 62) hx hb dmX13_makeSimples_365_a (by decide) ?_
        exact ih_4 x1 x2 x3 (x4 + 1) 0 0 0 0 0 0 z H locs ls hM (lv_sub hl [1, 2, 3, 4, 0] rfl) hq
      · intro x1 x2 x3 x4 x5 x6 x7 x8 x9 t0 z H locs ls  hM hl hq
        have hq : qm_X13_makeSimples_12_a K (q_X13_makeSimples_a K k) x1 x2 x3 x4 x5 x6 x7 x8 x9 t0 z = some z1 := hq
        unfold qm_X13_makeSimples_12_a at hq
        refine lv_iload_n hx hb dmX13_makeSimples_381_a rfl (lv_at hl 2 rfl) ?_
        refine lv_aload_n hx hb dmX13_makeSimples_382_a rfl (lv_at hl 0 rfl) ?_
        refine mg13_329_a hx hb hT hown hK hM dmX13_makeSimples_383_a ?_
        refine lv_iload_n hx hb dmX13_makeSimples_386_a rfl (lv_at hl 1 rfl) ?_
        refine tw_iald mX_ok_a hx hb hK hM mr_97_a hq dmX13_makeSimples_387_a (fun v27 hq => ?_)
        refine lv_icmp_ge (tgt := 419) hx hb dmX13_makeSimples_388_a (by decide) (fun hc => ?_) (fun hc => ?_)
        · have hq := tw_it hq hc
          refine lv_iinc (v := (x1 + 1)) (lv' := [(1, .int (x1 + 1)), (0, .ref (u 0)), (2, .int x2)]) hx hb dmX13_makeSimples_419_a hl (k := 1) rfl rfl (by decide) rfl (fun ls hl => ?_)
          refine lv_goto (tgt := 2) hx hb dmX13_makeSimples_422_a (by decide) ?_
          exact ih_1 (x1 + 1) 0 0 0 0 0 0 0 0 0 z H locs ls hM (lv_sub hl [1, 0] rfl) hq
        · have hq := tw_if hq hc
          refine lv_iconst (v := 0) hx hb dmX13_makeSimples_391_a (by decide) ?_
          refine lv_istore_n (lv' := [(3, .int 0), (0, .ref (u 0)), (1, .int x1), (2, .int x2)]) hx hb dmX13_makeSimples_392_a rfl hl (by decide) rfl (fun ls hl => ?_)
          exact ih_13 x1 x2 0 0 0 0 0 0 0 0 z H locs ls hM (lv_sub hl [1, 2, 3, 0] rfl) hq
      · intro x1 x2 x3 x4 x5 x6 x7 x8 x9 t0 z H locs ls  hM hl hq
        have hq : qm_X13_makeSimples_13_a K (q_X13_makeSimples_a K k) x1 x2 x3 x4 x5 x6 x7 x8 x9 t0 z = some z1 := hq
        unfold qm_X13_makeSimples_13_a at hq
        refine lv_iload_n hx hb dmX13_makeSimples_393_a rfl (lv_at hl 3 rfl) ?_
        refine lv_iload_n hx hb dmX13_makeSimples_394_a rfl (lv_at hl 1 rfl) ?_
        refine lv_iconst (v := 1) hx hb dmX13_makeSimples_395_a (by decide) ?_
        refine lv_isub hx hb dmX13_makeSimples_396_a ?_
        refine lv_icmp_ge (tgt := 413) hx hb dmX13_makeSimples_397_a (by decide) (fun hc => ?_) (fun hc => ?_)
        · have hq := tw_it hq hc
          refine lv_iinc (v := (x2 + 1)) (lv' := [(2, .int (x2 + 1)), (0, .ref (u 0)), (1, .int x1), (3, .int x3)]) hx hb dmX13_makeSimples_413_a hl (k := 2) rfl rfl (by decide) rfl (fun ls hl => ?_)
          refine lv_goto (tgt := 381) hx hb dmX13_makeSimples_416_a (by decide) ?_
          exact ih_12 x1 (x2 + 1) 0 0 0 0 0 0 0 0 z H locs ls hM (lv_sub hl [1, 2, 0] rfl) hq
        · have hq := tw_if hq hc
          refine lv_aload_n hx hb dmX13_makeSimples_400_a rfl (lv_at hl 0 rfl) ?_
          refine lv_iload_n hx hb dmX13_makeSimples_401_a rfl (lv_at hl 1 rfl) ?_
          refine lv_iload_n hx hb dmX13_makeSimples_402_a rfl (lv_at hl 2 rfl) ?_
          refine lv_iload_n hx hb dmX13_makeSimples_403_a rfl (lv_at hl 3 rfl) ?_
          obtain ⟨z28, hcq, hq⟩ := tw_cl0 hq
          refine tw_calv hM (va_runV (As := [.int x1, .int x2, .int x3]) (rest := []) ⟨hx, hb, hml, hown, hts⟩ (km_X13_turnRound_a l D q u hU K x1 x2 x3 z z28 hcq) (cwV 3 hts (tw_gV wM_good_a wq_27_a wq_28_a wq_29_a wq_22_a wq_15_a) rfl rfl rfl cd_X13_turnRound_a ⟨(Nat.le_of_ble_eq_true rfl), (Nat.le_of_ble_eq_true rfl)⟩) (mw_preV_a hK hN hM mo_0_a rfl) rfl rfl hl.1 rfl (lv_room (Nat.le_of_ble_eq_true rfl)) dmX13_makeSimples_404_a ⟨(Nat.le_of_ble_eq_true rfl), (Nat.le_of_ble_eq_true rfl)⟩) (fun H locs hM => ?_)
          refine lv_iinc (v := (x3 + 1)) (lv' := [(3, .int (x3 + 1)), (0, .ref (u 0)), (1, .int x1), (2, .int x2)]) hx hb dmX13_makeSimples_407_a hl (k := 3) rfl rfl (by decide) rfl (fun ls hl => ?_)
          refine lv_goto (tgt := 393) hx hb dmX13_makeSimples_410_a (by decide) ?_
          exact ih_13 x1 x2 (x3 + 1) 0 0 0 0 0 0 0 z28 H locs ls hM (lv_sub hl [1, 2, 3, 0] rfl) hq
  exact (key K).1 0 0 0 0 0 0 0 0 0 0 z s.heap [] ls  hM (lv_sub hl [0] rfl) hq
theorem dmX13_makePermutations_0_a : decode cX13_makePermutations 0 = .ok (.iconst 1, 1) := dw_at cX13_makePermutations_k0 (p := 0) rfl (by decide +kernel)
theorem dmX13_makePermutations_1_a : decode cX13_makePermutations 1 = .ok (.istore_n 1, 1) := dw_at cX13_makePermutations_k0 (p := 1) rfl (by decide +kernel)
theorem dmX13_makePermutations_2_a : decode cX13_makePermutations 2 = .ok (.iload_n 1, 1) := dw_at cX13_makePermutations_k0 (p := 2) rfl (by decide +kernel)
theorem dmX13_makePermutations_3_a : decode cX13_makePermutations 3 = .ok (.iconst 4, 1) := dw_at cX13_makePermutations_k0 (p := 3) rfl (by decide +kernel)
theorem dmX13_makePermutations_4_a : decode cX13_makePermutations 4 = .ok (.if_icmp .gt 377, 3) := dw_at cX13_makePermutations_k0 (p := 4) rfl (by decide +kernel)
theorem dmX13_makePermutations_7_a : decode cX13_makePermutations 7 = .ok (.iconst 0, 1) := dw_at cX13_makePermutations_k0 (p := 7) rfl (by decide +kernel)
theorem dmX13_makePermutations_8_a : decode cX13_makePermutations 8 = .ok (.istore_n 2, 1) := dw_at cX13_makePermutations_k0 (p := 8) rfl (by decide +kernel)
theorem dmX13_makePermutations_9_a : decode cX13_makePermutations 9 = .ok (.iconst 0, 1) := dw_at cX13_makePermutations_k0 (p := 9) rfl (by decide +kernel)
theorem dmX13_makePermutations_10_a : decode cX13_makePermutations 10 = .ok (.istore_n 3, 1) := dw_at cX13_makePermutations_k0 (p := 10) rfl (by decide +kernel)
theorem dmX13_makePermutations_11_a : decode cX13_makePermutations 11 = .ok (.iload_n 3, 1) := dw_at cX13_makePermutations_k0 (p := 11) rfl (by decide +kernel)
theorem dmX13_makePermutations_12_a : decode cX13_makePermutations 12 = .ok (.sipush 256, 3) := dw_at cX13_makePermutations_k0 (p := 12) rfl (by decide +kernel)
theorem dmX13_makePermutations_15_a : decode cX13_makePermutations 15 = .ok (.if_icmp .ge 160, 3) := dw_at cX13_makePermutations_k0 (p := 15) rfl (by decide +kernel)
theorem dmX13_makePermutations_18_a : decode cX13_makePermutations 18 = .ok (.iconst 1, 1) := dw_at cX13_makePermutations_k0 (p := 18) rfl (by decide +kernel)
theorem dmX13_makePermutations_19_a : decode cX13_makePermutations 19 = .ok (.istore 4, 2) := dw_at cX13_makePermutations_k0 (p := 19) rfl (by decide +kernel)
theorem dmX13_makePermutations_21_a : decode cX13_makePermutations 21 = .ok (.iconst 0, 1) := dw_at cX13_makePermutations_k0 (p := 21) rfl (by decide +kernel)
theorem dmX13_makePermutations_22_a : decode cX13_makePermutations 22 = .ok (.istore 5, 2) := dw_at cX13_makePermutations_k0 (p := 22) rfl (by decide +kernel)
theorem dmX13_makePermutations_24_a : decode cX13_makePermutations 24 = .ok (.iload 5, 2) := dw_at cX13_makePermutations_k1 (p := 0) rfl (by decide +kernel)
theorem dmX13_makePermutations_26_a : decode cX13_makePermutations 26 = .ok (.iconst 4, 1) := dw_at cX13_makePermutations_k1 (p := 2) rfl (by decide +kernel)
theorem dmX13_makePermutations_27_a : decode cX13_makePermutations 27 = .ok (.if_icmp .ge 95, 3) := dw_at cX13_makePermutations_k1 (p := 3) rfl (by decide +kernel)
theorem dmX13_makePermutations_30_a : decode cX13_makePermutations 30 = .ok (.iload_n 3, 1) := dw_at cX13_makePermutations_k1 (p := 6) rfl (by decide +kernel)
theorem dmX13_makePermutations_31_a : decode cX13_makePermutations 31 = .ok (.iconst 2, 1) := dw_at cX13_makePermutations_k1 (p := 7) rfl (by decide +kernel)
theorem dmX13_makePermutations_32_a : decode cX13_makePermutations 32 = .ok (.iload 5, 2) := dw_at cX13_makePermutations_k1 (p := 8) rfl (by decide +kernel)
theorem dmX13_makePermutations_34_a : decode cX13_makePermutations 34 = .ok (.imul, 1) := dw_at cX13_makePermutations_k1 (p := 10) rfl (by decide +kernel)
theorem dmX13_makePermutations_35_a : decode cX13_makePermutations 35 = .ok (.ishr, 1) := dw_at cX13_makePermutations_k1 (p := 11) rfl (by decide +kernel)
theorem dmX13_makePermutations_36_a : decode cX13_makePermutations 36 = .ok (.iconst 3, 1) := dw_at cX13_makePermutations_k1 (p := 12) rfl (by decide +kernel)
theorem dmX13_makePermutations_37_a : decode cX13_makePermutations 37 = .ok (.iand, 1) := dw_at cX13_makePermutations_k1 (p := 13) rfl (by decide +kernel)
theorem dmX13_makePermutations_38_a : decode cX13_makePermutations 38 = .ok (.istore 6, 2) := dw_at cX13_makePermutations_k1 (p := 14) rfl (by decide +kernel)
theorem dmX13_makePermutations_40_a : decode cX13_makePermutations 40 = .ok (.iload 4, 2) := dw_at cX13_makePermutations_k1 (p := 16) rfl (by decide +kernel)
theorem dmX13_makePermutations_42_a : decode cX13_makePermutations 42 = .ok (.iload 5, 2) := dw_at cX13_makePermutations_k1 (p := 18) rfl (by decide +kernel)
theorem dmX13_makePermutations_44_a : decode cX13_makePermutations 44 = .ok (.iload_n 1, 1) := dw_at cX13_makePermutations_k1 (p := 20) rfl (by decide +kernel)
theorem dmX13_makePermutations_45_a : decode cX13_makePermutations 45 = .ok (.if_icmp .ge 17, 3) := dw_at cX13_makePermutations_k1 (p := 21) rfl (by decide +kernel)
theorem dmX13_makePermutations_48_a : decode cX13_makePermutations 48 = .ok (.iload 6, 2) := dw_at cX13_makePermutations_k2 (p := 0) rfl (by decide +kernel)
theorem dmX13_makePermutations_50_a : decode cX13_makePermutations 50 = .ok (.iload_n 1, 1) := dw_at cX13_makePermutations_k2 (p := 2) rfl (by decide +kernel)
theorem dmX13_makePermutations_51_a : decode cX13_makePermutations 51 = .ok (.if_icmp .ge 7, 3) := dw_at cX13_makePermutations_k2 (p := 3) rfl (by decide +kernel)
theorem dmX13_makePermutations_54_a : decode cX13_makePermutations 54 = .ok (.iconst 1, 1) := dw_at cX13_makePermutations_k2 (p := 6) rfl (by decide +kernel)
theorem dmX13_makePermutations_55_a : decode cX13_makePermutations 55 = .ok (.goto 19, 3) := dw_at cX13_makePermutations_k2 (p := 7) rfl (by decide +kernel)
theorem dmX13_makePermutations_58_a : decode cX13_makePermutations 58 = .ok (.iconst 0, 1) := dw_at cX13_makePermutations_k2 (p := 10) rfl (by decide +kernel)
theorem dmX13_makePermutations_59_a : decode cX13_makePermutations 59 = .ok (.goto 15, 3) := dw_at cX13_makePermutations_k2 (p := 11) rfl (by decide +kernel)
theorem dmX13_makePermutations_62_a : decode cX13_makePermutations 62 = .ok (.iload 6, 2) := dw_at cX13_makePermutations_k2 (p := 14) rfl (by decide +kernel)
theorem dmX13_makePermutations_64_a : decode cX13_makePermutations 64 = .ok (.iload 5, 2) := dw_at cX13_makePermutations_k2 (p := 16) rfl (by decide +kernel)
theorem dmX13_makePermutations_66_a : decode cX13_makePermutations 66 = .ok (.if_icmp .ne 7, 3) := dw_at cX13_makePermutations_k2 (p := 18) rfl (by decide +kernel)
theorem dmX13_makePermutations_69_a : decode cX13_makePermutations 69 = .ok (.iconst 1, 1) := dw_at cX13_makePermutations_k2 (p := 21) rfl (by decide +kernel)
theorem dmX13_makePermutations_70_a : decode cX13_makePermutations 70 = .ok (.goto 4, 3) := dw_at cX13_makePermutations_k2 (p := 22) rfl (by decide +kernel)
theorem dmX13_makePermutations_73_a : decode cX13_makePermutations 73 = .ok (.iconst 0, 1) := dw_at cX13_makePermutations_k3 (p := 0) rfl (by decide +kernel)
theorem dmX13_makePermutations_74_a : decode cX13_makePermutations 74 = .ok (.iand, 1) := dw_at cX13_makePermutations_k3 (p := 1) rfl (by decide +kernel)
theorem dmX13_makePermutations_75_a : decode cX13_makePermutations 75 = .ok (.istore 4, 2) := dw_at cX13_makePermutations_k3 (p := 2) rfl (by decide +kernel)
theorem dmX13_makePermutations_77_a : decode cX13_makePermutations 77 = .ok (.iconst 0, 1) := dw_at cX13_makePermutations_k3 (p := 4) rfl (by decide +kernel)
theorem dmX13_makePermutations_78_a : decode cX13_makePermutations 78 = .ok (.istore 7, 2) := dw_at cX13_makePermutations_k3 (p := 5) rfl (by decide +kernel)
theorem dmX13_makePermutations_80_a : decode cX13_makePermutations 80 = .ok (.iload 7, 2) := dw_at cX13_makePermutations_k3 (p := 7) rfl (by decide +kernel)
theorem dmX13_makePermutations_82_a : decode cX13_makePermutations 82 = .ok (.iload 5, 2) := dw_at cX13_makePermutations_k3 (p := 9) rfl (by decide +kernel)
theorem dmX13_makePermutations_84_a : decode cX13_makePermutations 84 = .ok (.if_icmp .ge 32, 3) := dw_at cX13_makePermutations_k3 (p := 11) rfl (by decide +kernel)
theorem dmX13_makePermutations_87_a : decode cX13_makePermutations 87 = .ok (.iload 4, 2) := dw_at cX13_makePermutations_k3 (p := 14) rfl (by decide +kernel)
theorem dmX13_makePermutations_89_a : decode cX13_makePermutations 89 = .ok (.iload_n 3, 1) := dw_at cX13_makePermutations_k3 (p := 16) rfl (by decide +kernel)
theorem dmX13_makePermutations_90_a : decode cX13_makePermutations 90 = .ok (.iconst 2, 1) := dw_at cX13_makePermutations_k3 (p := 17) rfl (by decide +kernel)
theorem dmX13_makePermutations_91_a : decode cX13_makePermutations 91 = .ok (.iload 7, 2) := dw_at cX13_makePermutations_k3 (p := 18) rfl (by decide +kernel)
theorem dmX13_makePermutations_93_a : decode cX13_makePermutations 93 = .ok (.imul, 1) := dw_at cX13_makePermutations_k3 (p := 20) rfl (by decide +kernel)
theorem dmX13_makePermutations_94_a : decode cX13_makePermutations 94 = .ok (.ishr, 1) := dw_at cX13_makePermutations_k3 (p := 21) rfl (by decide +kernel)
theorem dmX13_makePermutations_95_a : decode cX13_makePermutations 95 = .ok (.iconst 3, 1) := dw_at cX13_makePermutations_k3 (p := 22) rfl (by decide +kernel)
theorem dmX13_makePermutations_96_a : decode cX13_makePermutations 96 = .ok (.iand, 1) := dw_at cX13_makePermutations_k3 (p := 23) rfl (by decide +kernel)
theorem dmX13_makePermutations_97_a : decode cX13_makePermutations 97 = .ok (.iload 6, 2) := dw_at cX13_makePermutations_k4 (p := 0) rfl (by decide +kernel)
theorem dmX13_makePermutations_99_a : decode cX13_makePermutations 99 = .ok (.if_icmp .eq 7, 3) := dw_at cX13_makePermutations_k4 (p := 2) rfl (by decide +kernel)
theorem dmX13_makePermutations_102_a : decode cX13_makePermutations 102 = .ok (.iconst 1, 1) := dw_at cX13_makePermutations_k4 (p := 5) rfl (by decide +kernel)
theorem dmX13_makePermutations_103_a : decode cX13_makePermutations 103 = .ok (.goto 4, 3) := dw_at cX13_makePermutations_k4 (p := 6) rfl (by decide +kernel)
theorem dmX13_makePermutations_106_a : decode cX13_makePermutations 106 = .ok (.iconst 0, 1) := dw_at cX13_makePermutations_k4 (p := 9) rfl (by decide +kernel)
theorem dmX13_makePermutations_107_a : decode cX13_makePermutations 107 = .ok (.iand, 1) := dw_at cX13_makePermutations_k4 (p := 10) rfl (by decide +kernel)
theorem dmX13_makePermutations_108_a : decode cX13_makePermutations 108 = .ok (.istore 4, 2) := dw_at cX13_makePermutations_k4 (p := 11) rfl (by decide +kernel)
theorem dmX13_makePermutations_110_a : decode cX13_makePermutations 110 = .ok (.iinc 7 1, 3) := dw_at cX13_makePermutations_k4 (p := 13) rfl (by decide +kernel)
theorem dmX13_makePermutations_113_a : decode cX13_makePermutations 113 = .ok (.goto (-33), 3) := dw_at cX13_makePermutations_k4 (p := 16) rfl (by decide +kernel)
theorem dmX13_makePermutations_116_a : decode cX13_makePermutations 116 = .ok (.iinc 5 1, 3) := dw_at cX13_makePermutations_k4 (p := 19) rfl (by decide +kernel)
theorem dmX13_makePermutations_119_a : decode cX13_makePermutations 119 = .ok (.goto (-95), 3) := dw_at cX13_makePermutations_k4 (p := 22) rfl (by decide +kernel)
theorem dmX13_makePermutations_122_a : decode cX13_makePermutations 122 = .ok (.iload 4, 2) := dw_at cX13_makePermutations_k5 (p := 0) rfl (by decide +kernel)
theorem dmX13_makePermutations_124_a : decode cX13_makePermutations 124 = .ok (.ifCond .eq 45, 3) := dw_at cX13_makePermutations_k5 (p := 2) rfl (by decide +kernel)
theorem dmX13_makePermutations_127_a : decode cX13_makePermutations 127 = .ok (.iconst 0, 1) := dw_at cX13_makePermutations_k5 (p := 5) rfl (by decide +kernel)
theorem dmX13_makePermutations_128_a : decode cX13_makePermutations 128 = .ok (.istore 5, 2) := dw_at cX13_makePermutations_k5 (p := 6) rfl (by decide +kernel)
theorem dmX13_makePermutations_130_a : decode cX13_makePermutations 130 = .ok (.iload 5, 2) := dw_at cX13_makePermutations_k5 (p := 8) rfl (by decide +kernel)
theorem dmX13_makePermutations_132_a : decode cX13_makePermutations 132 = .ok (.iconst 4, 1) := dw_at cX13_makePermutations_k5 (p := 10) rfl (by decide +kernel)
theorem dmX13_makePermutations_133_a : decode cX13_makePermutations 133 = .ok (.if_icmp .ge 33, 3) := dw_at cX13_makePermutations_k5 (p := 11) rfl (by decide +kernel)
theorem dmX13_makePermutations_136_a : decode cX13_makePermutations 136 = .ok (.aload_n 0, 1) := dw_at cX13_makePermutations_k5 (p := 14) rfl (by decide +kernel)
theorem dmX13_makePermutations_137_a : decode cX13_makePermutations 137 = .ok (.getfield 268, 3) := dw_at cX13_makePermutations_k5 (p := 15) rfl (by decide +kernel)
theorem dmX13_makePermutations_140_a : decode cX13_makePermutations 140 = .ok (.bipush 96, 2) := dw_at cX13_makePermutations_k5 (p := 18) rfl (by decide +kernel)
theorem dmX13_makePermutations_142_a : decode cX13_makePermutations 142 = .ok (.iload_n 1, 1) := dw_at cX13_makePermutations_k5 (p := 20) rfl (by decide +kernel)
theorem dmX13_makePermutations_143_a : decode cX13_makePermutations 143 = .ok (.imul, 1) := dw_at cX13_makePermutations_k5 (p := 21) rfl (by decide +kernel)
theorem dmX13_makePermutations_144_a : decode cX13_makePermutations 144 = .ok (.iconst 4, 1) := dw_at cX13_makePermutations_k5 (p := 22) rfl (by decide +kernel)
theorem dmX13_makePermutations_145_a : decode cX13_makePermutations 145 = .ok (.iload_n 2, 1) := dw_at cX13_makePermutations_k5 (p := 23) rfl (by decide +kernel)
theorem dmX13_makePermutations_146_a : decode cX13_makePermutations 146 = .ok (.imul, 1) := dw_at cX13_makePermutations_k6 (p := 0) rfl (by decide +kernel)
theorem dmX13_makePermutations_147_a : decode cX13_makePermutations 147 = .ok (.iadd, 1) := dw_at cX13_makePermutations_k6 (p := 1) rfl (by decide +kernel)
theorem dmX13_makePermutations_148_a : decode cX13_makePermutations 148 = .ok (.iload 5, 2) := dw_at cX13_makePermutations_k6 (p := 2) rfl (by decide +kernel)
theorem dmX13_makePermutations_150_a : decode cX13_makePermutations 150 = .ok (.iadd, 1) := dw_at cX13_makePermutations_k6 (p := 4) rfl (by decide +kernel)
theorem dmX13_makePermutations_151_a : decode cX13_makePermutations 151 = .ok (.iload_n 3, 1) := dw_at cX13_makePermutations_k6 (p := 5) rfl (by decide +kernel)
theorem dmX13_makePermutations_152_a : decode cX13_makePermutations 152 = .ok (.iconst 2, 1) := dw_at cX13_makePermutations_k6 (p := 6) rfl (by decide +kernel)
theorem dmX13_makePermutations_153_a : decode cX13_makePermutations 153 = .ok (.iload 5, 2) := dw_at cX13_makePermutations_k6 (p := 7) rfl (by decide +kernel)
theorem dmX13_makePermutations_155_a : decode cX13_makePermutations 155 = .ok (.imul, 1) := dw_at cX13_makePermutations_k6 (p := 9) rfl (by decide +kernel)
theorem dmX13_makePermutations_156_a : decode cX13_makePermutations 156 = .ok (.ishr, 1) := dw_at cX13_makePermutations_k6 (p := 10) rfl (by decide +kernel)
theorem dmX13_makePermutations_157_a : decode cX13_makePermutations 157 = .ok (.iconst 3, 1) := dw_at cX13_makePermutations_k6 (p := 11) rfl (by decide +kernel)
theorem dmX13_makePermutations_158_a : decode cX13_makePermutations 158 = .ok (.iand, 1) := dw_at cX13_makePermutations_k6 (p := 12) rfl (by decide +kernel)
theorem dmX13_makePermutations_159_a : decode cX13_makePermutations 159 = .ok (.iastore, 1) := dw_at cX13_makePermutations_k6 (p := 13) rfl (by decide +kernel)
theorem dmX13_makePermutations_160_a : decode cX13_makePermutations 160 = .ok (.iinc 5 1, 3) := dw_at cX13_makePermutations_k6 (p := 14) rfl (by decide +kernel)
theorem dmX13_makePermutations_163_a : decode cX13_makePermutations 163 = .ok (.goto (-33), 3) := dw_at cX13_makePermutations_k6 (p := 17) rfl (by decide +kernel)
theorem dmX13_makePermutations_166_a : decode cX13_makePermutations 166 = .ok (.iinc 2 1, 3) := dw_at cX13_makePermutations_k6 (p := 20) rfl (by decide +kernel)
theorem dmX13_makePermutations_169_a : decode cX13_makePermutations 169 = .ok (.iinc 3 1, 3) := dw_at cX13_makePermutations_k6 (p := 23) rfl (by decide +kernel)
theorem dmX13_makePermutations_172_a : decode cX13_makePermutations 172 = .ok (.goto (-161), 3) := dw_at cX13_makePermutations_k7 (p := 0) rfl (by decide +kernel)
theorem dmX13_makePermutations_175_a : decode cX13_makePermutations 175 = .ok (.iconst 0, 1) := dw_at cX13_makePermutations_k7 (p := 3) rfl (by decide +kernel)
theorem dmX13_makePermutations_176_a : decode cX13_makePermutations 176 = .ok (.istore_n 3, 1) := dw_at cX13_makePermutations_k7 (p := 4) rfl (by decide +kernel)
theorem dmX13_makePermutations_177_a : decode cX13_makePermutations 177 = .ok (.iload_n 3, 1) := dw_at cX13_makePermutations_k7 (p := 5) rfl (by decide +kernel)
theorem dmX13_makePermutations_178_a : decode cX13_makePermutations 178 = .ok (.iload_n 2, 1) := dw_at cX13_makePermutations_k7 (p := 6) rfl (by decide +kernel)
theorem dmX13_makePermutations_179_a : decode cX13_makePermutations 179 = .ok (.if_icmp .ge 196, 3) := dw_at cX13_makePermutations_k7 (p := 7) rfl (by decide +kernel)
theorem dmX13_makePermutations_182_a : decode cX13_makePermutations 182 = .ok (.iconst 0, 1) := dw_at cX13_makePermutations_k7 (p := 10) rfl (by decide +kernel)
theorem dmX13_makePermutations_183_a : decode cX13_makePermutations 183 = .ok (.istore 4, 2) := dw_at cX13_makePermutations_k7 (p := 11) rfl (by decide +kernel)
theorem dmX13_makePermutations_185_a : decode cX13_makePermutations 185 = .ok (.iload 4, 2) := dw_at cX13_makePermutations_k7 (p := 13) rfl (by decide +kernel)
theorem dmX13_makePermutations_187_a : decode cX13_makePermutations 187 = .ok (.iload_n 2, 1) := dw_at cX13_makePermutations_k7 (p := 15) rfl (by decide +kernel)
theorem dmX13_makePermutations_188_a : decode cX13_makePermutations 188 = .ok (.if_icmp .ge 181, 3) := dw_at cX13_makePermutations_k7 (p := 16) rfl (by decide +kernel)
theorem dmX13_makePermutations_191_a : decode cX13_makePermutations 191 = .ok (.iconst 0, 1) := dw_at cX13_makePermutations_k7 (p := 19) rfl (by decide +kernel)
theorem dmX13_makePermutations_192_a : decode cX13_makePermutations 192 = .ok (.istore 5, 2) := dw_at cX13_makePermutations_k7 (p := 20) rfl (by decide +kernel)
theorem dmX13_makePermutations_194_a : decode cX13_makePermutations 194 = .ok (.iload 5, 2) := dw_at cX13_makePermutations_k7 (p := 22) rfl (by decide +kernel)
theorem dmX13_makePermutations_196_a : decode cX13_makePermutations 196 = .ok (.iload_n 2, 1) := dw_at cX13_makePermutations_k8 (p := 0) rfl (by decide +kernel)
theorem dmX13_makePermutations_197_a : decode cX13_makePermutations 197 = .ok (.if_icmp .ge 166, 3) := dw_at cX13_makePermutations_k8 (p := 1) rfl (by decide +kernel)
theorem dmX13_makePermutations_200_a : decode cX13_makePermutations 200 = .ok (.iconst 1, 1) := dw_at cX13_makePermutations_k8 (p := 4) rfl (by decide +kernel)
theorem dmX13_makePermutations_201_a : decode cX13_makePermutations 201 = .ok (.istore 6, 2) := dw_at cX13_makePermutations_k8 (p := 5) rfl (by decide +kernel)
theorem dmX13_makePermutations_203_a : decode cX13_makePermutations 203 = .ok (.iconst 1, 1) := dw_at cX13_makePermutations_k8 (p := 7) rfl (by decide +kernel)
theorem dmX13_makePermutations_204_a : decode cX13_makePermutations 204 = .ok (.istore 7, 2) := dw_at cX13_makePermutations_k8 (p := 8) rfl (by decide +kernel)
theorem dmX13_makePermutations_206_a : decode cX13_makePermutations 206 = .ok (.iconst 0, 1) := dw_at cX13_makePermutations_k8 (p := 10) rfl (by decide +kernel)
theorem dmX13_makePermutations_207_a : decode cX13_makePermutations 207 = .ok (.istore 8, 2) := dw_at cX13_makePermutations_k8 (p := 11) rfl (by decide +kernel)
theorem dmX13_makePermutations_209_a : decode cX13_makePermutations 209 = .ok (.iload 8, 2) := dw_at cX13_makePermutations_k8 (p := 13) rfl (by decide +kernel)
theorem dmX13_makePermutations_211_a : decode cX13_makePermutations 211 = .ok (.iload_n 1, 1) := dw_at cX13_makePermutations_k8 (p := 15) rfl (by decide +kernel)
theorem dmX13_makePermutations_212_a : decode cX13_makePermutations 212 = .ok (.if_icmp .ge 95, 3) := dw_at cX13_makePermutations_k8 (p := 16) rfl (by decide +kernel)
theorem dmX13_makePermutations_215_a : decode cX13_makePermutations 215 = .ok (.iload 6, 2) := dw_at cX13_makePermutations_k8 (p := 19) rfl (by decide +kernel)
theorem dmX13_makePermutations_217_a : decode cX13_makePermutations 217 = .ok (.aload_n 0, 1) := dw_at cX13_makePermutations_k8 (p := 21) rfl (by decide +kernel)
theorem dmX13_makePermutations_218_a : decode cX13_makePermutations 218 = .ok (.iload_n 1, 1) := dw_at cX13_makePermutations_k8 (p := 22) rfl (by decide +kernel)
theorem dmX13_makePermutations_219_a : decode cX13_makePermutations 219 = .ok (.iload 5, 2) := dw_at cX13_makePermutations_k8 (p := 23) rfl (by decide +kernel)
theorem dmX13_makePermutations_221_a : decode cX13_makePermutations 221 = .ok (.aload_n 0, 1) := dw_at cX13_makePermutations_k9 (p := 0) rfl (by decide +kernel)
theorem dmX13_makePermutations_222_a : decode cX13_makePermutations 222 = .ok (.iload_n 1, 1) := dw_at cX13_makePermutations_k9 (p := 1) rfl (by decide +kernel)
theorem dmX13_makePermutations_223_a : decode cX13_makePermutations 223 = .ok (.iload_n 3, 1) := dw_at cX13_makePermutations_k9 (p := 2) rfl (by decide +kernel)
theorem dmX13_makePermutations_224_a : decode cX13_makePermutations 224 = .ok (.iload 8, 2) := dw_at cX13_makePermutations_k9 (p := 3) rfl (by decide +kernel)
theorem dmX13_makePermutations_226_a : decode cX13_makePermutations 226 = .ok (.invokevirtual 671, 3) := dw_at cX13_makePermutations_k9 (p := 5) rfl (by decide +kernel)
theorem dmX13_makePermutations_229_a : decode cX13_makePermutations 229 = .ok (.invokevirtual 671, 3) := dw_at cX13_makePermutations_k9 (p := 8) rfl (by decide +kernel)
theorem dmX13_makePermutations_232_a : decode cX13_makePermutations 232 = .ok (.aload_n 0, 1) := dw_at cX13_makePermutations_k9 (p := 11) rfl (by decide +kernel)
theorem dmX13_makePermutations_233_a : decode cX13_makePermutations 233 = .ok (.iload_n 1, 1) := dw_at cX13_makePermutations_k9 (p := 12) rfl (by decide +kernel)
theorem dmX13_makePermutations_234_a : decode cX13_makePermutations 234 = .ok (.iload_n 3, 1) := dw_at cX13_makePermutations_k9 (p := 13) rfl (by decide +kernel)
theorem dmX13_makePermutations_235_a : decode cX13_makePermutations 235 = .ok (.aload_n 0, 1) := dw_at cX13_makePermutations_k9 (p := 14) rfl (by decide +kernel)
theorem dmX13_makePermutations_236_a : decode cX13_makePermutations 236 = .ok (.iload_n 1, 1) := dw_at cX13_makePermutations_k9 (p := 15) rfl (by decide +kernel)
theorem dmX13_makePermutations_237_a : decode cX13_makePermutations 237 = .ok (.iload 4, 2) := dw_at cX13_makePermutations_k9 (p := 16) rfl (by decide +kernel)
theorem dmX13_makePermutations_239_a : decode cX13_makePermutations 239 = .ok (.iload 8, 2) := dw_at cX13_makePermutations_k9 (p := 18) rfl (by decide +kernel)
theorem dmX13_makePermutations_241_a : decode cX13_makePermutations 241 = .ok (.invokevirtual 671, 3) := dw_at cX13_makePermutations_k9 (p := 20) rfl (by decide +kernel)
theorem dmX13_makePermutations_244_a : decode cX13_makePermutations 244 = .ok (.invokevirtual 671, 3) := dw_at cX13_makePermutations_k9 (p := 23) rfl (by decide +kernel)
theorem dmX13_makePermutations_247_a : decode cX13_makePermutations 247 = .ok (.if_icmp .ne 7, 3) := dw_at cX13_makePermutations_k10 (p := 0) rfl (by decide +kernel)
theorem dmX13_makePermutations_250_a : decode cX13_makePermutations 250 = .ok (.iconst 1, 1) := dw_at cX13_makePermutations_k10 (p := 3) rfl (by decide +kernel)
theorem dmX13_makePermutations_251_a : decode cX13_makePermutations 251 = .ok (.goto 4, 3) := dw_at cX13_makePermutations_k10 (p := 4) rfl (by decide +kernel)
theorem dmX13_makePermutations_254_a : decode cX13_makePermutations 254 = .ok (.iconst 0, 1) := dw_at cX13_makePermutations_k10 (p := 7) rfl (by decide +kernel)
theorem dmX13_makePermutations_255_a : decode cX13_makePermutations 255 = .ok (.iand, 1) := dw_at cX13_makePermutations_k10 (p := 8) rfl (by decide +kernel)
theorem dmX13_makePermutations_256_a : decode cX13_makePermutations 256 = .ok (.istore 6, 2) := dw_at cX13_makePermutations_k10 (p := 9) rfl (by decide +kernel)
theorem dmX13_makePermutations_258_a : decode cX13_makePermutations 258 = .ok (.iload 7, 2) := dw_at cX13_makePermutations_k10 (p := 11) rfl (by decide +kernel)
theorem dmX13_makePermutations_260_a : decode cX13_makePermutations 260 = .ok (.aload_n 0, 1) := dw_at cX13_makePermutations_k10 (p := 13) rfl (by decide +kernel)
theorem dmX13_makePermutations_261_a : decode cX13_makePermutations 261 = .ok (.iload_n 1, 1) := dw_at cX13_makePermutations_k10 (p := 14) rfl (by decide +kernel)
theorem dmX13_makePermutations_262_a : decode cX13_makePermutations 262 = .ok (.iload_n 3, 1) := dw_at cX13_makePermutations_k10 (p := 15) rfl (by decide +kernel)
theorem dmX13_makePermutations_263_a : decode cX13_makePermutations 263 = .ok (.aload_n 0, 1) := dw_at cX13_makePermutations_k10 (p := 16) rfl (by decide +kernel)
theorem dmX13_makePermutations_264_a : decode cX13_makePermutations 264 = .ok (.iload_n 1, 1) := dw_at cX13_makePermutations_k10 (p := 17) rfl (by decide +kernel)
theorem dmX13_makePermutations_265_a : decode cX13_makePermutations 265 = .ok (.iload 5, 2) := dw_at cX13_makePermutations_k10 (p := 18) rfl (by decide +kernel)
theorem dmX13_makePermutations_267_a : decode cX13_makePermutations 267 = .ok (.iload 8, 2) := dw_at cX13_makePermutations_k10 (p := 20) rfl (by decide +kernel)
theorem dmX13_makePermutations_269_a : decode cX13_makePermutations 269 = .ok (.invokevirtual 671, 3) := dw_at cX13_makePermutations_k10 (p := 22) rfl (by decide +kernel)
theorem dmX13_makePermutations_272_a : decode cX13_makePermutations 272 = .ok (.invokevirtual 671, 3) := dw_at cX13_makePermutations_k11 (p := 0) rfl (by decide +kernel)
theorem dmX13_makePermutations_275_a : decode cX13_makePermutations 275 = .ok (.aload_n 0, 1) := dw_at cX13_makePermutations_k11 (p := 3) rfl (by decide +kernel)
theorem dmX13_makePermutations_276_a : decode cX13_makePermutations 276 = .ok (.iload_n 1, 1) := dw_at cX13_makePermutations_k11 (p := 4) rfl (by decide +kernel)
theorem dmX13_makePermutations_277_a : decode cX13_makePermutations 277 = .ok (.iload 4, 2) := dw_at cX13_makePermutations_k11 (p := 5) rfl (by decide +kernel)
theorem dmX13_makePermutations_279_a : decode cX13_makePermutations 279 = .ok (.aload_n 0, 1) := dw_at cX13_makePermutations_k11 (p := 7) rfl (by decide +kernel)
theorem dmX13_makePermutations_280_a : decode cX13_makePermutations 280 = .ok (.iload_n 1, 1) := dw_at cX13_makePermutations_k11 (p := 8) rfl (by decide +kernel)
theorem dmX13_makePermutations_281_a : decode cX13_makePermutations 281 = .ok (.iload_n 3, 1) := dw_at cX13_makePermutations_k11 (p := 9) rfl (by decide +kernel)
theorem dmX13_makePermutations_282_a : decode cX13_makePermutations 282 = .ok (.iload 8, 2) := dw_at cX13_makePermutations_k11 (p := 10) rfl (by decide +kernel)
theorem dmX13_makePermutations_284_a : decode cX13_makePermutations 284 = .ok (.invokevirtual 671, 3) := dw_at cX13_makePermutations_k11 (p := 12) rfl (by decide +kernel)
theorem dmX13_makePermutations_287_a : decode cX13_makePermutations 287 = .ok (.invokevirtual 671, 3) := dw_at cX13_makePermutations_k11 (p := 15) rfl (by decide +kernel)
theorem dmX13_makePermutations_290_a : decode cX13_makePermutations 290 = .ok (.if_icmp .ne 7, 3) := dw_at cX13_makePermutations_k11 (p := 18) rfl (by decide +kernel)
theorem dmX13_makePermutations_293_a : decode cX13_makePermutations 293 = .ok (.iconst 1, 1) := dw_at cX13_makePermutations_k11 (p := 21) rfl (by decide +kernel)
theorem dmX13_makePermutations_294_a : decode cX13_makePermutations 294 = .ok (.goto 4, 3) := dw_at cX13_makePermutations_k11 (p := 22) rfl (by decide +kernel)
theorem dmX13_makePermutations_297_a : decode cX13_makePermutations 297 = .ok (.iconst 0, 1) := dw_at cX13_makePermutations_k12 (p := 0) rfl (by decide +kernel)
theorem dmX13_makePermutations_298_a : decode cX13_makePermutations 298 = .ok (.iand, 1) := dw_at cX13_makePermutations_k12 (p := 1) rfl (by decide +kernel)
theorem dmX13_makePermutations_299_a : decode cX13_makePermutations 299 = .ok (.istore 7, 2) := dw_at cX13_makePermutations_k12 (p := 2) rfl (by decide +kernel)
theorem dmX13_makePermutations_301_a : decode cX13_makePermutations 301 = .ok (.iinc 8 1, 3) := dw_at cX13_makePermutations_k12 (p := 4) rfl (by decide +kernel)
theorem dmX13_makePermutations_304_a : decode cX13_makePermutations 304 = .ok (.goto (-95), 3) := dw_at cX13_makePermutations_k12 (p := 7) rfl (by decide +kernel)
theorem dmX13_makePermutations_307_a : decode cX13_makePermutations 307 = .ok (.iload 6, 2) := dw_at cX13_makePermutations_k12 (p := 10) rfl (by decide +kernel)
theorem dmX13_makePermutations_309_a : decode cX13_makePermutations 309 = .ok (.ifCond .eq 23, 3) := dw_at cX13_makePermutations_k12 (p := 12) rfl (by decide +kernel)
theorem dmX13_makePermutations_312_a : decode cX13_makePermutations 312 = .ok (.aload_n 0, 1) := dw_at cX13_makePermutations_k12 (p := 15) rfl (by decide +kernel)
theorem dmX13_makePermutations_313_a : decode cX13_makePermutations 313 = .ok (.getfield 271, 3) := dw_at cX13_makePermutations_k12 (p := 16) rfl (by decide +kernel)
theorem dmX13_makePermutations_316_a : decode cX13_makePermutations 316 = .ok (.sipush 576, 3) := dw_at cX13_makePermutations_k12 (p := 19) rfl (by decide +kernel)
theorem dmX13_makePermutations_319_a : decode cX13_makePermutations 319 = .ok (.iload_n 1, 1) := dw_at cX13_makePermutations_k12 (p := 22) rfl (by decide +kernel)
theorem dmX13_makePermutations_320_a : decode cX13_makePermutations 320 = .ok (.imul, 1) := dw_at cX13_makePermutations_k12 (p := 23) rfl (by decide +kernel)
theorem dmX13_makePermutations_321_a : decode cX13_makePermutations 321 = .ok (.bipush 24, 2) := dw_at cX13_makePermutations_k13 (p := 0) rfl (by decide +kernel)
theorem dmX13_makePermutations_323_a : decode cX13_makePermutations 323 = .ok (.iload_n 3, 1) := dw_at cX13_makePermutations_k13 (p := 2) rfl (by decide +kernel)
theorem dmX13_makePermutations_324_a : decode cX13_makePermutations 324 = .ok (.imul, 1) := dw_at cX13_makePermutations_k13 (p := 3) rfl (by decide +kernel)
theorem dmX13_makePermutations_325_a : decode cX13_makePermutations 325 = .ok (.iadd, 1) := dw_at cX13_makePermutations_k13 (p := 4) rfl (by decide +kernel)
theorem dmX13_makePermutations_326_a : decode cX13_makePermutations 326 = .ok (.iload 4, 2) := dw_at cX13_makePermutations_k13 (p := 5) rfl (by decide +kernel)
theorem dmX13_makePermutations_328_a : decode cX13_makePermutations 328 = .ok (.iadd, 1) := dw_at cX13_makePermutations_k13 (p := 7) rfl (by decide +kernel)
theorem dmX13_makePermutations_329_a : decode cX13_makePermutations 329 = .ok (.iload 5, 2) := dw_at cX13_makePermutations_k13 (p := 8) rfl (by decide +kernel)
theorem dmX13_makePermutations_331_a : decode cX13_makePermutations 331 = .ok (.iastore, 1) := dw_at cX13_makePermutations_k13 (p := 10) rfl (by decide +kernel)
theorem dmX13_makePermutations_332_a : decode cX13_makePermutations 332 = .ok (.iload 7, 2) := dw_at cX13_makePermutations_k13 (p := 11) rfl (by decide +kernel)
theorem dmX13_makePermutations_334_a : decode cX13_makePermutations 334 = .ok (.ifCond .eq 23, 3) := dw_at cX13_makePermutations_k13 (p := 13) rfl (by decide +kernel)
theorem dmX13_makePermutations_337_a : decode cX13_makePermutations 337 = .ok (.aload_n 0, 1) := dw_at cX13_makePermutations_k13 (p := 16) rfl (by decide +kernel)
theorem dmX13_makePermutations_338_a : decode cX13_makePermutations 338 = .ok (.getfield 274, 3) := dw_at cX13_makePermutations_k13 (p := 17) rfl (by decide +kernel)
theorem dmX13_makePermutations_341_a : decode cX13_makePermutations 341 = .ok (.sipush 576, 3) := dw_at cX13_makePermutations_k13 (p := 20) rfl (by decide +kernel)
theorem dmX13_makePermutations_344_a : decode cX13_makePermutations 344 = .ok (.iload_n 1, 1) := dw_at cX13_makePermutations_k13 (p := 23) rfl (by decide +kernel)
theorem dmX13_makePermutations_345_a : decode cX13_makePermutations 345 = .ok (.imul, 1) := dw_at cX13_makePermutations_k14 (p := 0) rfl (by decide +kernel)
theorem dmX13_makePermutations_346_a : decode cX13_makePermutations 346 = .ok (.bipush 24, 2) := dw_at cX13_makePermutations_k14 (p := 1) rfl (by decide +kernel)
theorem dmX13_makePermutations_348_a : decode cX13_makePermutations 348 = .ok (.iload_n 3, 1) := dw_at cX13_makePermutations_k14 (p := 3) rfl (by decide +kernel)
theorem dmX13_makePermutations_349_a : decode cX13_makePermutations 349 = .ok (.imul, 1) := dw_at cX13_makePermutations_k14 (p := 4) rfl (by decide +kernel)
theorem dmX13_makePermutations_350_a : decode cX13_makePermutations 350 = .ok (.iadd, 1) := dw_at cX13_makePermutations_k14 (p := 5) rfl (by decide +kernel)
theorem dmX13_makePermutations_351_a : decode cX13_makePermutations 351 = .ok (.iload 4, 2) := dw_at cX13_makePermutations_k14 (p := 6) rfl (by decide +kernel)
theorem dmX13_makePermutations_353_a : decode cX13_makePermutations 353 = .ok (.iadd, 1) := dw_at cX13_makePermutations_k14 (p := 8) rfl (by decide +kernel)
theorem dmX13_makePermutations_354_a : decode cX13_makePermutations 354 = .ok (.iload 5, 2) := dw_at cX13_makePermutations_k14 (p := 9) rfl (by decide +kernel)
theorem dmX13_makePermutations_356_a : decode cX13_makePermutations 356 = .ok (.iastore, 1) := dw_at cX13_makePermutations_k14 (p := 11) rfl (by decide +kernel)
theorem dmX13_makePermutations_357_a : decode cX13_makePermutations 357 = .ok (.iinc 5 1, 3) := dw_at cX13_makePermutations_k14 (p := 12) rfl (by decide +kernel)
theorem dmX13_makePermutations_360_a : decode cX13_makePermutations 360 = .ok (.goto (-166), 3) := dw_at cX13_makePermutations_k14 (p := 15) rfl (by decide +kernel)
theorem dmX13_makePermutations_363_a : decode cX13_makePermutations 363 = .ok (.iinc 4 1, 3) := dw_at cX13_makePermutations_k14 (p := 18) rfl (by decide +kernel)
theorem dmX13_makePermutations_366_a : decode cX13_makePermutations 366 = .ok (.goto (-181), 3) := dw_at cX13_makePermutations_k14 (p := 21) rfl (by decide +kernel)
theorem dmX13_makePermutations_369_a : decode cX13_makePermutations 369 = .ok (.iinc 3 1, 3) := dw_at cX13_makePermutations_k15 (p := 0) rfl (by decide +kernel)
theorem dmX13_makePermutations_372_a : decode cX13_makePermutations 372 = .ok (.goto (-195), 3) := dw_at cX13_makePermutations_k15 (p := 3) rfl (by decide +kernel)
theorem dmX13_makePermutations_375_a : decode cX13_makePermutations 375 = .ok (.iinc 1 1, 3) := dw_at cX13_makePermutations_k15 (p := 6) rfl (by decide +kernel)
theorem dmX13_makePermutations_378_a : decode cX13_makePermutations 378 = .ok (.goto (-376), 3) := dw_at cX13_makePermutations_k15 (p := 9) rfl (by decide +kernel)
theorem dmX13_makePermutations_381_a : decode cX13_makePermutations 381 = .ok (.return_, 1) := dw_at cX13_makePermutations_k15 (p := 12) rfl (by decide +kernel)
def qm_X13_makePermutations_0_a (K : Nat) (go : Nat → Int32 → Int32 → Int32 → Int32 → Int32 → Int32 → Int32 → Int32 → Int32 → Int32 → ow_MS → Option ow_MS) (x1 : Int32) (x2 : Int32) (x3 : Int32) (x4 : Int32) (x5 : Int32) (x6 : Int32) (x7 : Int32) (x8 : Int32) (t0 : Int32) (t1 : Int32) (z : ow_MS) : Option ow_MS :=
 go 1 1 0 0 0 0 0 0 0 0 0 z
def qm_X13_makePermutations_1_a (K : Nat) (go : Nat → Int32 → Int32 → Int32 → Int32 → Int32 → Int32 → Int32 → Int32 → Int32 → Int32 → ow_MS → Option ow_MS) (x1 : Int32) (x2 : Int32) (x3 : Int32) (x4 : Int32) (x5 : Int32) (x6 : Int32) (x7 : Int32) (x8 : Int32) (t0 : Int32) (t1 : Int32) (z : ow_MS) : Option ow_MS :=
 (if 4 < x1 then some z
 else go 2 x1 0 0 0 0 0 0 0 0 0 z)
def qm_X13_makePermutations_2_a (K : Nat) (go : Nat → Int32 → Int32 → Int32 → Int32 → Int32 → Int32 → Int32 → Int32 → Int32 → Int32 → ow_MS → Option ow_MS) (x1 : Int32) (x2 : Int32) (x3 : Int32) (x4 : Int32) (x5 : Int32) (x6 : Int32) (x7 : Int32) (x8 : Int32) (t0 : Int32) (t1 : Int32) (z : ow_MS) : Option ow_MS :=
 (if 256 ≤ x3 then go 9 x1 x2 0 0 0 0 0 0 0 0 z
 else go 3 x1 x2 x3 1 0 0 0 0 0 0 z)
def qm_X13_makePermutations_3_a (K : Nat) (go : Nat → Int32 → Int32 → Int32 → Int32 → Int32 → Int32 → Int32 → Int32 → Int32 → Int32 → ow_MS → Option ow_MS) (x1 : Int32) (x2 : Int32) (x3 : Int32) (x4 : Int32) (x5 : Int32) (x6 : Int32) (x7 : Int32) (x8 : Int32) (t0 : Int32) (t1 : Int32) (z : ow_MS) : Option ow_MS :=
 (if 4 ≤ x5 then (if x4 = 0 then go 8 x1 x2 x3 x4 x5 0 0 0 0 0 z
 else go 7 x1 x2 x3 x4 0 0 0 0 0 0 z)
 else (if x1 ≤ x5 then (if (((x3 : Int32) >>> (((2 * x5) : Int32) &&& 31)) &&& 3) = x5 then go 4 x1 x2 x3 x4 x5 (((x3 : Int32) >>> (((2 * x5) : Int32) &&& 31)) &&& 3) 0 0 1 x4 z
 else go 4 x1 x2 x3 x4 x5 (((x3 : Int32) >>> (((2 * x5) : Int32) &&& 31)) &&& 3) 0 0 0 x4 z)
 else (if x1 ≤ (((x3 : Int32) >>> (((2 * x5) : Int32) &&& 31)) &&& 3) then go 4 x1 x2 x3 x4 x5 (((x3 : Int32) >>> (((2 * x5) : Int32) &&& 31)) &&& 3) 0 0 0 x4 z
 else go 4 x1 x2 x3 x4 x5 (((x3 : Int32) >>> (((2 * x5) : Int32) &&& 31)) &&& 3) 0 0 1 x4 z)))
def qm_X13_makePermutations_4_a (K : Nat) (go : Nat → Int32 → Int32 → Int32 → Int32 → Int32 → Int32 → Int32 → Int32 → Int32 → Int32 → ow_MS → Option ow_MS) (x1 : Int32) (x2 : Int32) (x3 : Int32) (x4 : Int32) (x5 : Int32) (x6 : Int32) (x7 : Int32) (x8 : Int32) (t0 : Int32) (t1 : Int32) (z : ow_MS) : Option ow_MS :=
 go 5 x1 x2 x3 (t1 &&& t0) x5 x6 0 0 0 0 z
def qm_X13_makePermutations_5_a (K : Nat) (go : Nat → Int32 → Int32 → Int32 → Int32 → Int32 → Int32 → Int32 → Int32 → Int32 → Int32 → ow_MS → Option ow_MS) (x1 : Int32) (x2 : Int32) (x3 : Int32) (x4 : Int32) (x5 : Int32) (x6 : Int32) (x7 : Int32) (x8 : Int32) (t0 : Int32) (t1 : Int32) (z : ow_MS) : Option ow_MS :=
 (if x5 ≤ x7 then go 3 x1 x2 x3 x4 (x5 + 1) 0 0 0 0 0 z
 else (if (((x3 : Int32) >>> (((2 * x7) : Int32) &&& 31)) &&& 3) = x6 then go 6 x1 x2 x3 x4 x5 x6 x7 0 0 x4 z
 else go 6 x1 x2 x3 x4 x5 x6 x7 0 1 x4 z))
def qm_X13_makePermutations_6_a (K : Nat) (go : Nat → Int32 → Int32 → Int32 → Int32 → Int32 → Int32 → Int32 → Int32 → Int32 → Int32 → ow_MS → Option ow_MS) (x1 : Int32) (x2 : Int32) (x3 : Int32) (x4 : Int32) (x5 : Int32) (x6 : Int32) (x7 : Int32) (x8 : Int32) (t0 : Int32) (t1 : Int32) (z : ow_MS) : Option ow_MS :=
 go 5 x1 x2 x3 (t1 &&& t0) x5 x6 (x7 + 1) 0 0 0 z
def qm_X13_makePermutations_7_a (K : Nat) (go : Nat → Int32 → Int32 → Int32 → Int32 → Int32 → Int32 → Int32 → Int32 → Int32 → Int32 → ow_MS → Option ow_MS) (x1 : Int32) (x2 : Int32) (x3 : Int32) (x4 : Int32) (x5 : Int32) (x6 : Int32) (x7 : Int32) (x8 : Int32) (t0 : Int32) (t1 : Int32) (z : ow_MS) : Option ow_MS :=
 (if 4 ≤ x5 then go 8 x1 (x2 + 1) x3 x4 x5 0 0 0 0 0 z
 else wrI mX_a z 74 (((96 * x1) + (4 * x2)) + x5) (((x3 : Int32) >>> (((2 * x5) : Int32) &&& 31)) &&& 3) fun z1 => go 7 x1 x2 x3 x4 (x5 + 1) 0 0 0 0 0 z1)
def qm_X13_makePermutations_8_a (K : Nat) (go : Nat → Int32 → Int32 → Int32 → Int32 → Int32 → Int32 → Int32 → Int32 → Int32 → Int32 → ow_MS → Option ow_MS) (x1 : Int32) (x2 : Int32) (x3 : Int32) (x4 : Int32) (x5 : Int32) (x6 : Int32) (x7 : Int32) (x8 : Int32) (t0 : Int32) (t1 : Int32) (z : ow_MS) : Option ow_MS :=
 go 2 x1 x2 (x3 + 1) 0 0 0 0 0 0 0 z
def qm_X13_makePermutations_9_a (K : Nat) (go : Nat → Int32 → Int32 → Int32 → Int32 → Int32 → Int32 → Int32 → Int32 → Int32 → Int32 → ow_MS → Option ow_MS) (x1 : Int32) (x2 : Int32) (x3 : Int32) (x4 : Int32) (x5 : Int32) (x6 : Int32) (x7 : Int32) (x8 : Int32) (t0 : Int32) (t1 : Int32) (z : ow_MS) : Option ow_MS :=
 (if x2 ≤ x3 then go 1 (x1 + 1) 0 0 0 0 0 0 0 0 0 z
 else go 10 x1 x2 x3 0 0 0 0 0 0 0 z)
def qm_X13_makePermutations_10_a (K : Nat) (go : Nat → Int32 → Int32 → Int32 → Int32 → Int32 → Int32 → Int32 → Int32 → Int32 → Int32 → ow_MS → Option ow_MS) (x1 : Int32) (x2 : Int32) (x3 : Int32) (x4 : Int32) (x5 : Int32) (x6 : Int32) (x7 : Int32) (x8 : Int32) (t0 : Int32) (t1 : Int32) (z : ow_MS) : Option ow_MS :=
 (if x2 ≤ x4 then go 9 x1 x2 (x3 + 1) 0 0 0 0 0 0 0 z
 else go 11 x1 x2 x3 x4 0 0 0 0 0 0 z)
def qm_X13_makePermutations_11_a (K : Nat) (go : Nat → Int32 → Int32 → Int32 → Int32 → Int32 → Int32 → Int32 → Int32 → Int32 → Int32 → ow_MS → Option ow_MS) (x1 : Int32) (x2 : Int32) (x3 : Int32) (x4 : Int32) (x5 : Int32) (x6 : Int32) (x7 : Int32) (x8 : Int32) (t0 : Int32) (t1 : Int32) (z : ow_MS) : Option ow_MS :=
 (if x2 ≤ x5 then go 10 x1 x2 x3 (x4 + 1) 0 0 0 0 0 0 z
 else go 12 x1 x2 x3 x4 x5 1 1 0 0 0 z)
def qm_X13_makePermutations_12_a (K : Nat) (go : Nat → Int32 → Int32 → Int32 → Int32 → Int32 → Int32 → Int32 → Int32 → Int32 → Int32 → ow_MS → Option ow_MS) (x1 : Int32) (x2 : Int32) (x3 : Int32) (x4 : Int32) (x5 : Int32) (x6 : Int32) (x7 : Int32) (x8 : Int32) (t0 : Int32) (t1 : Int32) (z : ow_MS) : Option ow_MS :=
 (if x1 ≤ x8 then (if x6 = 0 then go 15 x1 x2 x3 x4 x5 x6 x7 x8 0 0 z
 else wrI mX_a z 75 (((576 * x1) + (24 * x3)) + x4) x5 fun z2 => go 15 x1 x2 x3 x4 x5 x6 x7 x8 0 0 z2)
 else cs1 (qe_X13_image_a K x1 x3 x8 z) fun v4 z3 => cs1 (qe_X13_image_a K x1 x5 v4 z3) fun v6 z5 => cs1 (qe_X13_image_a K x1 x4 x8 z5) fun v8 z7 => cs1 (qe_X13_image_a K x1 x3 v8 z7) fun v10 z9 => (if v6 = v10 then go 13 x1 x2 x3 x4 x5 x6 x7 x8 1 x6 z9
 else go 13 x1 x2 x3 x4 x5 x6 x7 x8 0 x6 z9))
def qm_X13_makePermutations_13_a (K : Nat) (go : Nat → Int32 → Int32 → Int32 → Int32 → Int32 → Int32 → Int32 → Int32 → Int32 → Int32 → ow_MS → Option ow_MS) (x1 : Int32) (x2 : Int32) (x3 : Int32) (x4 : Int32) (x5 : Int32) (x6 : Int32) (x7 : Int32) (x8 : Int32) (t0 : Int32) (t1 : Int32) (z : ow_MS) : Option ow_MS :=
 cs1 (qe_X13_image_a K x1 x5 x8 z) fun v12 z11 => cs1 (qe_X13_image_a K x1 x3 v12 z11) fun v14 z13 => cs1 (qe_X13_image_a K x1 x3 x8 z13) fun v16 z15 => cs1 (qe_X13_image_a K x1 x4 v16 z15) fun v18 z17 => (if v14 = v18 then go 14 x1 x2 x3 x4 x5 (t1 &&& t0) x7 x8 1 x7 z17
 else go 14 x1 x2 x3 x4 x5 (t1 &&& t0) x7 x8 0 x7 z17)
def qm_X13_makePermutations_14_a (K : Nat) (go : Nat → Int32 → Int32 → Int32 → Int32 → Int32 → Int32 → Int32 → Int32 → Int32 → Int32 → ow_MS → Option ow_MS) (x1 : Int32) (x2 : Int32) (x3 : Int32) (x4 : Int32) (x5 : Int32) (x6 : Int32) (x7 : Int32) (x8 : Int32) (t0 : Int32) (t1 : Int32) (z : ow_MS) : Option ow_MS :=
 go 12 x1 x2 x3 x4 x5 x6 (t1 &&& t0) (x8 + 1) 0 0 z
def qm_X13_makePermutations_15_a (K : Nat) (go : Nat → Int32 → Int32 → Int32 → Int32 → Int32 → Int32 → Int32 → Int32 → Int32 → Int32 → ow_MS → Option ow_MS) (x1 : Int32) (x2 : Int32) (x3 : Int32) (x4 : Int32) (x5 : Int32) (x6 : Int32) (x7 : Int32) (x8 : Int32) (t0 : Int32) (t1 : Int32) (z : ow_MS) : Option ow_MS :=
 (if x7 = 0 then go 16 x1 x2 x3 x4 x5 x6 x7 x8 0 0 z
 else wrI mX_a z 76 (((576 * x1) + (24 * x3)) + x4) x5 fun z19 => go 16 x1 x2 x3 x4 x5 x6 x7 x8 0 0 z19)
def qm_X13_makePermutations_16_a (K : Nat) (go : Nat → Int32 → Int32 → Int32 → Int32 → Int32 → Int32 → Int32 → Int32 → Int32 → Int32 → ow_MS → Option ow_MS) (x1 : Int32) (x2 : Int32) (x3 : Int32) (x4 : Int32) (x5 : Int32) (x6 : Int32) (x7 : Int32) (x8 : Int32) (t0 : Int32) (t1 : Int32) (z : ow_MS) : Option ow_MS :=
 go 11 x1 x2 x3 x4 (x5 + 1) 0 0 0 0 0 z
def qb_X13_makePermutations_a (K : Nat) (go : Nat → Int32 → Int32 → Int32 → Int32 → Int32 → Int32 → Int32 → Int32 → Int32 → Int32 → ow_MS → Option ow_MS) (L : Nat) (x1 : Int32) (x2 : Int32) (x3 : Int32) (x4 : Int32) (x5 : Int32) (x6 : Int32) (x7 : Int32) (x8 : Int32) (t0 : Int32) (t1 : Int32) (z : ow_MS) : Option ow_MS := match L with
  | 0 => qm_X13_makePermutations_0_a K go x1 x2 x3 x4 x5 x6 x7 x8 t0 t1 z
  | 1 => qm_X13_makePermutations_1_a K go x1 x2 x3 x4 x5 x6 x7 x8 t0 t1 z
  | 2 => qm_X13_makePermutations_2_a K go x1 x2 x3 x4 x5 x6 x7 x8 t0 t1 z
  | 3 => qm_X13_makePermutations_3_a K go x1 x2 x3 x4 x5 x6 x7 x8 t0 t1 z
  | 4 => qm_X13_makePermutations_4_a K go x1 x2 x3 x4 x5 x6 x7 x8 t0 t1 z
  | 5 => qm_X13_makePermutations_5_a K go x1 x2 x3 x4 x5 x6 x7 x8 t0 t1 z
  | 6 => qm_X13_makePermutations_6_a K go x1 x2 x3 x4 x5 x6 x7 x8 t0 t1 z
  | 7 => qm_X13_makePermutations_7_a K go x1 x2 x3 x4 x5 x6 x7 x8 t0 t1 z
  | 8 => qm_X13_makePermutations_8_a K go x1 x2 x3 x4 x5 x6 x7 x8 t0 t1 z
  | 9 => qm_X13_makePermutations_9_a K go x1 x2 x3 x4 x5 x6 x7 x8 t0 t1 z
  | 10 => qm_X13_makePermutations_10_a K go x1 x2 x3 x4 x5 x6 x7 x8 t0 t1 z
  | 11 => qm_X13_makePermutations_11_a K go x1 x2 x3 x4 x5 x6 x7 x8 t0 t1 z
  | 12 => qm_X13_makePermutations_12_a K go x1 x2 x3 x4 x5 x6 x7 x8 t0 t1 z
  | 13 => qm_X13_makePermutations_13_a K go x1 x2 x3 x4 x5 x6 x7 x8 t0 t1 z
  | 14 => qm_X13_makePermutations_14_a K go x1 x2 x3 x4 x5 x6 x7 x8 t0 t1 z
  | 15 => qm_X13_makePermutations_15_a K go x1 x2 x3 x4 x5 x6 x7 x8 t0 t1 z
  | 16 => qm_X13_makePermutations_16_a K go x1 x2 x3 x4 x5 x6 x7 x8 t0 t1 z
  | _ => none
def q_X13_makePermutations_a (K : Nat) : Nat → Nat → Int32 → Int32 → Int32 → Int32 → Int32 → Int32 → Int32 → Int32 → Int32 → Int32 → ow_MS → Option ow_MS
  | 0 => fun _ _ _ _ _ _ _ _ _ _ _ _ => none
  | k + 1 => qb_X13_makePermutations_a K (q_X13_makePermutations_a K k)
def qe_X13_makePermutations_a (K : Nat)  (z : ow_MS) : Option ow_MS := q_X13_makePermutations_a K K 0 0 0 0 0 0 0 0 0 0 0 z
abbrev wm_X13_makePermutations_a : List Cond := .code yX13_makePermutations cX13_makePermutations 9 none :: wM_a
theorem cd_X13_makePermutations_a : yX13_makePermutations.cls = RX13 ∧ yX13_makePermutations.cls ≠ "java/lang/invoke/MethodHandle" ∧ yX13_makePermutations.cls ≠ "java/lang/invoke/VarHandle" ∧ (parseMethodDescriptor yX13_makePermutations.desc).map (fun d => d.parameters.length) = some 0 := by decide +kernel
set_option maxHeartbeats 4000000 in
set_option maxRecDepth 100000 in
theorem km_X13_makePermutations_a (l : Launch) (D : va_G) (q : ow_Q5) (u : Nat → Nat) (hU : tw_inj mX_a u) (K : Nat)   (z z1 : ow_MS) (hq : qe_X13_makePermutations_a K  z = some z1) : Met l yX13_makePermutations wm_X13_makePermutations_a ({ frames := 1, cells := 0, slots := 0, locals := 23 } : Room) (va_Pc [.ref (u 0)] (mw_pre_a D q u z)) (va_Qv (fun (_ : Unit) => True) (fun _ t => va_P D vwCl (tw mX_a q u z1) t.heap) (tw_A mX_a u)) 0 0 (tw_A mX_a u) := by
  refine Met.ofW (cc := cX13_makePermutations) (maxL := 9) (ret := none) (by decide) rfl ?_
  intro p e s m args below meth c s₁ B hml hv
  obtain ⟨rfl, hP, hK, hN⟩ := hv
  have hx := B.exec
  have hb := B.bytes
  have hr := B.returns
  have hts := atoms_spec (ws := wm_X13_makePermutations_a) B.pre
  have hT : ∀ w ∈ wM_a, w.before ([.ref (u 0)] : List Value).toArray s = true := fun w h => hts w (List.mem_cons_of_mem _ h)
  have hown : s.vm.findClass RX13 = some m.cls := findClass_of_methodNamed B.named
  have hlocks := B.notSynchronized
  have hM : tw_M D vwCl mX_a q s.heap u z s.heap [] := ⟨hP, va_S.rf⟩
  have hl := lv_entry ([.ref (u 0)]) (n := 9) (Nat.le_of_ble_eq_true rfl)
  rw [lg_entry_eq]
  generalize (lg_sl ([.ref (u 0)]) ++ List.replicate (9 - (lg_sl ([.ref (u 0)])).length) Slot.unset).toArray = ls at hl ⊢
  have hl : lv_has ls 9 [(0, .ref (u 0))] := hl
  refine ow_named (fun QQ hQQ => ?_)
  generalize ([.ref (u 0)] : List Value).toArray = args at hts hT hQQ ⊢
  have key : ∀ k : Nat, (∀ (x1 : Int32) (x2 : Int32) (x3 : Int32) (x4 : Int32) (x5 : Int32) (x6 : Int32) (x7 : Int32) (x8 : Int32) (t0 : Int32) (t1 : Int32) (z : ow_MS) (H : Heap) (locs : List Loc) (ls : Array Slot), tw_M D vwCl mX_a q s.heap u z H locs → lv_has ls 9 [(0, .ref (u 0))] → q_X13_makePermutations_a K k 0 x1 x2 x3 x4 x5 x6 x7 x8 t0 t1 z = some z1 → W p l e ({ frames := 1, cells := 0, slots := 0, locals := 23 } : Room) s m args below meth c H locs 0 0 QQ (F0 m 0 ls [])) ∧ (∀ (x1 : Int32) (x2 : Int32) (x3 : Int32) (x4 : Int32) (x5 : Int32) (x6 : Int32) (x7 : Int32) (x8 : Int32) (t0 : Int32) (t1 : Int32) (z : ow_MS) (H : Heap) (locs : List Loc) (ls : Array Slot), tw_M D vwCl mX_a q s.heap u z H locs → lv_has ls 9 [(0, .ref (u 0)), (1, .int x1)] → q_X13_makePermutations_a K k 1 x1 x2 x3 x4 x5 x6 x7 x8 t0 t1 z = some z1 → W p l e ({ frames := 1, cells := 0, slots := 0, locals := 23 } : Room) s m args below meth c H locs 0 0 QQ (F0 m 2 ls [])) ∧ (∀ (x1 : Int32) (x2 : Int32) (x3 : Int32) (x4 : Int32) (x5 : Int32) (x6 : Int32) (x7 : Int32) (x8 : Int32) (t0 : Int32) (t1 : Int32) (z : ow_MS) (H : Heap) (locs : List Loc) (ls : Array Slot), tw_M D vwCl mX_a q s.heap u z H locs → lv_has ls 9 [(0, .ref (u 0)), (1, .int x1), (2, .int x2), (3, .int x3)] → q_X13_makePermutations_a K k 2 x1 x2 x3 x4 x5 x6 x7 x8 t0 t1 z = some z1 → W p l e ({ frames := 1, cells := 0, slots := 0, locals := 23 } : Room) s m args below meth c H locs 0 0 QQ (F0 m 11 ls [])) ∧ (∀ (x1 : Int32) (x2 : Int32) (x3 : Int32) (x4 : Int32) (x5 : Int32) (x6 : Int32) (x7 : Int32) (x8 : Int32) (t0 : Int32) (t1 : Int32) (z : ow_MS) (H : Heap) (locs : List Loc) (ls : Array Slot), tw_M D vwCl mX_a q s.heap u z H locs → lv_has ls 9 [(0, .ref (u 0)), (1, .int x1), (2, .int x2), (3, .int x3), (4, .int x4), (5, .int x5)] → q_X13_makePermutations_a K k 3 x1 x2 x3 x4 x5 x6 x7 x8 t0 t1 z = some z1 → W p l e ({ frames := 1, cells := 0, slots := 0, locals := 23 } : Room) s m args below meth c H locs 0 0 QQ (F0 m 24 ls [])) ∧ (∀ (x1 : Int32) (x2 : Int32) (x3 : Int32) (x4 : Int32) (x5 : Int32) (x6 : Int32) (x7 : Int32) (x8 : Int32) (t0 : Int32) (t1 : Int32) (z : ow_MS) (H : Heap) (locs : List Loc) (ls : Array Slot), tw_M D vwCl mX_a q s.heap u z H locs → lv_has ls 9 [(0, .ref (u 0)), (1, .int x1), (2, .int x2), (3, .int x3), (4, .int x4), (5, .int x5), (6, .int x6)] → q_X13_makePermutations_a K k 4 x1 x2 x3 x4 x5 x6 x7 x8 t0 t1 z = some z1 → W p l e ({ frames := 1, cells := 0, slots := 0, locals := 23 } : Room) s m args below meth c H locs 0 0 QQ (F0 m 74 ls [.int t0, .int t1])) ∧ (∀ (x1 : Int32) (x2 : Int32) (x3 : Int32) (x4 : Int32) (x5 : Int32) (x6 : Int32) (x7 : Int32) (x8 : Int32) (t0 : Int32) (t1 : Int32) (z : ow_MS) (H : Heap) (locs : List Loc) (ls : Array Slot), tw_M D vwCl mX_a q s.heap u z H locs → lv_has ls 9 [(0, .ref (u 0)), (1, .int x1), (2, .int x2), (3, .int x3), (4, .int x4), (5, .int x5), (6, .int x6), (7, .int x7)] → q_X13_makePermutations_a K k 5 x1 x2 x3 x4 x5 x6 x7 x8 t0 t1 z = some z1 → W p l e ({ frames := 1, cells := 0, slots := 0, locals := 23 } : Room) s m args below meth c H locs 0 0 QQ (F0 m 80 ls [])) ∧ (∀ (x1 : Int32) (x2 : Int32) (x3 : Int32) (x4 : Int32) (x5 : Int32) (x6 : Int32) (x7 : Int32) (x8 : Int32) (t0 : Int32) (t1 : Int32) (z : ow_MS) (H : Heap) (locs : List Loc) (ls : Array Slot), tw_M D vwCl mX_a q s.heap u z H locs → lv_has ls 9 [(0, .ref (u 0)), (1, .int x1), (2, .int x2), (3, .int x3), (4, .int x4), (5, .int x5), (6, .int x6), (7, .int x7)] → q_X13_makePermutations_a K k 6 x1 x2 x3 x4 x5 x6 x7 x8 t0 t1 z = some z1 → W p l e ({ frames := 1, cells := 0, slots := 0, locals := 23 } : Room) s m args below meth c H locs 0 0 QQ (F0 m 107 ls [.int t0, .int t1])) ∧ (∀ (x1 : Int32) (x2 : Int32) (x3 : Int32) (x4 : Int32) (x5 : Int32) (x6 : Int32) (x7 : Int32) (x8 : Int32) (t0 : Int32) (t1 : Int32) (z : ow_MS) (H : Heap) (locs : List Loc) (ls : Array Slot), tw_M D vwCl mX_a q s.heap u z H locs → lv_has ls 9 [(0, .ref (u 0)), (1, .int x1), (2, .int x2), (3, .int x3), (4, .int x4), (5, .int x5)] → q_X13_makePermutations_a K k 7 x1 x2 x3 x4 x5 x6 x7 x8 t0 t1 z = some z1 → W p l e ({ frames := 1, cells := 0, slots := 0, locals := 23 } : Room) s m args below meth c H locs 0 0 QQ (F0 m 130 ls [])) ∧ (∀ (x1 : Int32) (x2 : Int32) (x3 : Int32) (x4 : Int32) (x5 : Int32) (x6 : Int32) (x7 : Int32) (x8 : Int32) (t0 : Int32) (t1 : Int32) (z : ow_MS) (H : Heap) (locs : List Loc) (ls : Array Slot), tw_M D vwCl mX_a q s.heap u z H locs → lv_has ls 9 [(0, .ref (u 0)), (1, .int x1), (2, .int x2), (3, .int x3), (4, .int x4), (5, .int x5)] → q_X13_makePermutations_a K k 8 x1 x2 x3 x4 x5 x6 x7 x8 t0 t1 z = some z1 → W p l e ({ frames := 1, cells := 0, slots := 0, locals := 23 } : Room) s m args below meth c H locs 0 0 QQ (F0 m 169 ls [])) ∧ (∀ (x1 : Int32) (x2 : Int32) (x3 : Int32) (x4 : Int32) (x5 : Int32) (x6 : Int32) (x7 : Int32) (x8 : Int32) (t0 : Int32) (t1 : Int32) (z : ow_MS) (H : Heap) (locs : List Loc) (ls : Array Slot), tw_M D vwCl mX_a q s.heap u z H locs → lv_has ls 9 [(0, .ref (u 0)), (1, .int x1), (2, .int x2), (3, .int x3)] → q_X13_makePermutations_a K k 9 x1 x2 x3 x4 x5 x6 x7 x8 t0 t1 z = some z1 → W p l e ({ frames := 1, cells := 0, slots := 0, locals := 23 } : Room) s m args below meth c H locs 0 0 QQ (F0 m 177 ls [])) ∧ (∀ (x1 : Int32) (x2 : Int32) (x3 : Int32) (x4 : Int32) (x5 : Int32) (x6 : Int32) (x7 : Int32) (x8 : Int32) (t0 : Int32) (t1 : Int32) (z : ow_MS) (H : Heap) (locs : List Loc) (ls : Array Slot), tw_M D vwCl mX_a q s.heap u z H locs → lv_has ls 9 [(0, .ref (u 0)), (1, .int x1), (2, .int x2), (3, .int x3), (4, .int x4)] → q_X13_makePermutations_a K k 10 x1 x2 x3 x4 x5 x6 x7 x8 t0 t1 z = some z1 → W p l e ({ frames := 1, cells := 0, slots := 0, locals := 23 } : Room) s m args below meth c H locs 0 0 QQ (F0 m 185 ls [])) ∧ (∀ (x1 : Int32) (x2 : Int32) (x3 : Int32) (x4 : Int32) (x5 : Int32) (x6 : Int32) (x7 : Int32) (x8 : Int32) (t0 : Int32) (t1 : Int32) (z : ow_MS) (H : Heap) (locs : List Loc) (ls : Array Slot), tw_M D vwCl mX_a q s.heap u z H locs → lv_has ls 9 [(0, .ref (u 0)), (1, .int x1), (2, .int x2), (3, .int x3), (4, .int x4), (5, .int x5)] → q_X13_makePermutations_a K k 11 x1 x2 x3 x4 x5 x6 x7 x8 t0 t1 z = some z1 → W p l e ({ frames := 1, cells := 0, slots := 0, locals := 23 } : Room) s m args below meth c H locs 0 0 QQ (F0 m 194 ls [])) ∧ (∀ (x1 : Int32) (x2 : Int32) (x3 : Int32) (x4 : Int32) (x5 : Int32) (x6 : Int32) (x7 : Int32) (x8 : Int32) (t0 : Int32) (t1 : Int32) (z : ow_MS) (H : Heap) (locs : List Loc) (ls : Array Slot), tw_M D vwCl mX_a q s.heap u z H locs → lv_has ls 9 [(0, .ref (u 0)), (1, .int x1), (2, .int x2), (3, .int x3), (4, .int x4), (5, .int x5), (6, .int x6), (7, .int x7), (8, .int x8)] → q_X13_makePermutations_a K k 12 x1 x2 x3 x4 x5 x6 x7 x8 t0 t1 z = some z1 → W p l e ({ frames := 1, cells := 0, slots := 0, locals := 23 } : Room) s m args below meth c H locs 0 0 QQ (F0 m 209 ls [])) ∧ (∀ (x1 : Int32) (x2 : Int32) (x3 : Int32) (x4 : Int32) (x5 : Int32) (x6 : Int32) (x7 : Int32) (x8 : Int32) (t0 : Int32) (t1 : Int32) (z : ow_MS) (H : Heap) (locs : List Loc) (ls : Array Slot), tw_M D vwCl mX_a q s.heap u z H locs → lv_has ls 9 [(0, .ref (u 0)), (1, .int x1), (2, .int x2), (3, .int x3), (4, .int x4), (5, .int x5), (6, .int x6), (7, .int x7), (8, .int x8)] → q_X13_makePermutations_a K k 13 x1 x2 x3 x4 x5 x6 x7 x8 t0 t1 z = some z1 → W p l e ({ frames := 1, cells := 0, slots := 0, locals := 23 } : Room) s m args below meth c H locs 0 0 QQ (F0 m 255 ls [.int t0, .int t1])) ∧ (∀ (x1 : Int32) (x2 : Int32) (x3 : Int32) (x4 : Int32) (x5 : Int32) (x6 : Int32) (x7 : Int32) (x8 : Int32) (t0 : Int32) (t1 : Int32) (z : ow_MS) (H : Heap) (locs : List Loc) (ls : Array Slot), tw_M D vwCl mX_a q s.heap u z H locs → lv_has ls 9 [(0, .ref (u 0)), (1, .int x1), (2, .int x2), (3, .int x3), (4, .int x4), (5, .int x5), (6, .int x6), (7, .int x7), (8, .int x8)] → q_X13_makePermutations_a K k 14 x1 x2 x3 x4 x5 x6 x7 x8 t0 t1 z = some z1 → W p l e ({ frames := 1, cells := 0, slots := 0, locals := 23 } : Room) s m args below meth c H locs 0 0 QQ (F0 m 298 ls [.int t0, .int t1])) ∧ (∀ (x1 : Int32) (x2 : Int32) (x3 : Int32) (x4 : Int32) (x5 : Int32) (x6 : Int32) (x7 : Int32) (x8 : Int32) (t0 : Int32) (t1 : Int32) (z : ow_MS) (H : Heap) (locs : List Loc) (ls : Array Slot), tw_M D vwCl mX_a q s.heap u z H locs → lv_has ls 9 [(0, .ref (u 0)), (1, .int x1), (2, .int x2), (3, .int x3), (4, .int x4), (5, .int x5), (6, .int x6), (7, .int x7), (8, .int x8)] → q_X13_makePermutations_a K k 15 x1 x2 x3 x4 x5 x6 x7 x8 t0 t1 z = some z1 → W p l e ({ frames := 1, cells := 0, slots := 0, locals := 23 } : Room) s m args below meth c H locs 0 0 QQ (F0 m 332 ls [])) ∧ (∀ (x1 : Int32) (x2 : Int32) (x3 : Int32) (x4 : Int32) (x5 : Int32) (x6 : Int32) (x7 : Int32) (x8 : Int32) (t0 : Int32) (t1 : Int32) (z : ow_MS) (H : Heap) (locs : List Loc) (ls : Array Slot), tw_M D vwCl mX_a q s.heap u z H locs → lv_has ls 9 [(0, .ref (u 0)), (1, .int x1), (2, .int x2), (3, .int x3), (4, .int x4), (5, .int x5), (6, .int x6), (7, .int x7), (8, .int x8)] → q_X13_makePermutations_a K k 16 x1 x2 x3 x4 x5 x6 x7 x8 t0 t1 z = some z1 → W p l e ({ frames := 1, cells := 0, slots := 0, locals := 23 } : Room) s m args below meth c H locs 0 0 QQ (F0 m 357 ls [])) := by
    intro k
    induction k with
    | zero => exact ⟨fun _ _ _ _ _ _ _ _ _ _ _ _ _ _  _ _ hq => tw_no hq, fun _ _ _ _ _ _ _ _ _ _ _ _ _ _  _ _ hq => tw_no hq, fun _ _ _ _ _ _ _ _ _ _ _ _ _ _  _ _ hq => tw_no hq, fun _ _ _ _ _ _ _ _ _ _ _ _ _ _  _ _ hq => tw_no hq, fun _ _ _ _ _ _ _ _ _ _ _ _ _ _  _ _ hq => tw_no hq, fun _ _ _ _ _ _ _ _ _ _ _ _ _ _  _ _ hq => tw_no hq, fun _ _ _ _ _ _ _ _ _ _ _ _ _ _  _ _ hq => tw_no hq, fun _ _ _ _ _ _ _ _ _ _ _ _ _ _  _ _ hq => tw_no hq, fun _ _ _ _ _ _ _ _ _ _ _ _ _ _  _ _ hq => tw_no hq, fun _ _ _ _ _ _ _ _ _ _ _ _ _ _  _ _ hq => tw_no hq, fun _ _ _ _ _ _ _ _ _ _ _ _ _ _  _ _ hq => tw_no hq, fun _ _ _ _ _ _ _ _ _ _ _ _ _ _  _ _ hq => tw_no hq, fun _ _ _ _ _ _ _ _ _ _ _ _ _ _  _ _ hq => tw_no hq, fun _ _ _ _ _ _ _ _ _ _ _ _ _ _  _ _ hq => tw_no hq, fun _ _ _ _ _ _ _ _ _ _ _ _ _ _  _ _ hq => tw_no hq, fun _ _ _ _ _ _ _ _ _ _ _ _ _ _  _ _ hq => tw_no hq, fun _ _ _ _ _ _ _ _ _ _ _ _ _ _  _ _ hq => tw_no hq⟩
    | succ k ih =>
      obtain ⟨ih_0, ih_1, ih_2, ih_3, ih_4, ih_5, ih_6, ih_7, ih_8, ih_9, ih_10, ih_11, ih_12, ih_13, ih_14, ih_15, ih_16⟩ := ih
      refine ⟨?_, ?_, ?_, ?_, ?_, ?_, ?_, ?_, ?_, ?_, ?_, ?_, ?_, ?_, ?_, ?_, ?_⟩
      · intro x1 x2 x3 x4 x5 x6 x7 x8 t0 t1 z H locs ls  hM hl hq
        have hq : qm_X13_makePermutations_0_a K (q_X13_makePermutations_a K k) x1 x2 x3 x4 x5 x6 x7 x8 t0 t1 z = some z1 := hq
        unfold qm_X13_makePermutations_0_a at hq
        refine lv_iconst (v := 1) hx hb dmX13_makePermutations_0_a (by decide) ?_
        refine lv_istore_n (lv' := [(1, .int 1), (0, .ref (u 0))]) hx hb dmX13_makePermutations_1_a rfl hl (by decide) rfl (fun ls hl => ?_)
        exact ih_1 1 0 0 0 0 0 0 0 0 0 z H locs ls hM (lv_sub hl [1, 0] rfl) hq
      · intro x1 x2 x3 x4 x5 x6 x7 x8 t0 t1 z H locs ls  hM hl hq
        have hq : qm_X13_makePermutations_1_a K (q_X13_makePermutations_a K k) x1 x2 x3 x4 x5 x6 x7 x8 t0 t1 z = some z1 := hq
        unfold qm_X13_makePermutations_1_a at hq
        refine lv_iload_n hx hb dmX13_makePermutations_2_a rfl (lv_at hl 1 rfl) ?_
        refine lv_iconst (v := 4) hx hb dmX13_makePermutations_3_a (by decide) ?_
        refine lv_icmp_gt (tgt := 381) hx hb dmX13_makePermutations_4_a (by decide) (fun hc => ?_) (fun hc => ?_)
        · have hq := tw_it hq hc
          exact mw_vret_a hx hb hr hlocks hM hq hQQ dmX13_makePermutations_381_a
        · have hq := tw_if hq hc
          refine lv_iconst (v := 0) hx hb dmX13_makePermutations_7_a (by decide) ?_
          refine lv_istore_n (lv' := [(2, .int 0), (0, .ref (u 0)), (1, .int x1)]) hx hb dmX13_makePermutations_8_a rfl hl (by decide) rfl (fun ls hl => ?_)
          refine lv_iconst (v := 0) hx hb dmX13_makePermutations_9_a (by decide) ?_
          refine lv_istore_n (lv' := [(3, .int 0), (2, .int 0), (0, .ref (u 0)), (1, .int x1)]) hx hb dmX13_makePermutations_10_a rfl hl (by decide) rfl (fun ls hl => ?_)
          exact ih_2 x1 0 0 0 0 0 0 0 0 0 z H locs ls hM (lv_sub hl [2, 3, 1, 0] rfl) hq
      · intro x1 x2 x3 x4 x5 x6 x7 x8 t0 t1 z H locs ls  hM hl hq
        have hq : qm_X13_makePermutations_2_a K (q_X13_makePermutations_a K k) x1 x2 x3 x4 x5 x6 x7 x8 t0 t1 z = some z1 := hq
        unfold qm_X13_makePermutations_2_a at hq
        refine lv_iload_n hx hb dmX13_makePermutations_11_a rfl (lv_at hl 3 rfl) ?_
        refine lv_sipush (v := 256) hx hb dmX13_makePermutations_12_a (by decide) ?_
        refine lv_icmp_ge (tgt := 175) hx hb dmX13_makePermutations_15_a (by decide) (fun hc => ?_) (fun hc => ?_)
        · have hq := tw_it hq hc
          refine lv_iconst (v := 0) hx hb dmX13_makePermutations_175_a (by decide) ?_
          refine lv_istore_n (lv' := [(3, .int 0), (0, .ref (u 0)), (1, .int x1), (2, .int x2)]) hx hb dmX13_makePermutations_176_a rfl hl (by decide) rfl (fun ls hl => ?_)
          exact ih_9 x1 x2 0 0 0 0 0 0 0 0 z H locs ls hM (lv_sub hl [1, 2, 3, 0] rfl) hq
        · have hq := tw_if hq hc
          refine lv_iconst (v := 1) hx hb dmX13_makePermutations_18_a (by decide) ?_
          refine lv_istore (lv' := [(4, .int 1), (0, .ref (u 0)), (1, .int x1), (2, .int x2), (3, .int x3)]) hx hb dmX13_makePermutations_19_a hl (by decide) rfl (fun ls hl => ?_)
          refine lv_iconst (v := 0) hx hb dmX13_makePermutations_21_a (by decide) ?_
          refine lv_istore (lv' := [(5, .int 0), (4, .int 1), (0, .ref (u 0)), (1, .int x1), (2, .int x2), (3, .int x3)]) hx hb dmX13_makePermutations_22_a hl (by decide) rfl (fun ls hl => ?_)
          exact ih_3 x1 x2 x3 1 0 0 0 0 0 0 z H locs ls hM (lv_sub hl [2, 3, 4, 5, 1, 0] rfl) hq
      · intro x1 x2 x3 x4 x5 x6 x7 x8 t0 t1 z H locs ls  hM hl hq
        have hq : qm_X13_makePermutations_3_a K (q_X13_makePermutations_a K k) x1 x2 x3 x4 x5 x6 x7 x8 t0 t1 z = some z1 := hq
        unfold qm_X13_makePermutations_3_a at hq
        refine lv_iload hx hb dmX13_makePermutations_24_a (lv_at hl 5 rfl) ?_
        refine lv_iconst (v := 4) hx hb dmX13_makePermutations_26_a (by decide) ?_
        refine lv_icmp_ge (tgt := 122) hx hb dmX13_makePermutations_27_a (by decide) (fun hc => ?_) (fun hc => ?_)
        · have hq := tw_it hq hc
          refine lv_iload hx hb dmX13_makePermutations_122_a (lv_at hl 4 rfl) ?_
          refine lv_if_eq (tgt := 169) hx hb dmX13_makePermutations_124_a (by decide) (fun hc => ?_) (fun hc => ?_)
          · have hq := tw_it hq hc
            exact ih_8 x1 x2 x3 x4 x5 0 0 0 0 0 z H locs ls hM (lv_sub hl [0, 1, 2, 3, 4, 5] rfl) hq
          · have hq := tw_if hq hc
            refine lv_iconst (v := 0) hx hb dmX13_makePermutations_127_a (by decide) ?_
            refine lv_istore (lv' := [(5, .int 0), (0, .ref (u 0)), (1, .int x1), (2, .int x2), (3, .int x3), (4, .int x4)]) hx hb dmX13_makePermutations_128_a hl (by decide) rfl (fun ls hl => ?_)
            exact ih_7 x1 x2 x3 x4 0 0 0 0 0 0 z H locs ls hM (lv_sub hl [1, 2, 3, 4, 5, 0] rfl) hq
        · have hq := tw_if hq hc
          refine lv_iload_n hx hb dmX13_makePermutations_30_a rfl (lv_at hl 3 rfl) ?_
          refine lv_iconst (v := 2) hx hb dmX13_makePermutations_31_a (by decide) ?_
          refine lv_iload hx hb dmX13_makePermutations_32_a (lv_at hl 5 rfl) ?_
          refine lv_imul hx hb dmX13_makePermutations_34_a ?_
          refine lv_ishr hx hb dmX13_makePermutations_35_a ?_
          refine lv_iconst (v := 3) hx hb dmX13_makePermutations_36_a (by decide) ?_
          refine lv_iand hx hb dmX13_makePermutations_37_a ?_
          refine lv_istore (lv' := [(6, .int (((x3 : Int32) >>> (((2 * x5) : Int32) &&& 31)) &&& 3)), (0, .ref (u 0)), (1, .int x1), (2, .int x2), (3, .int x3), (4, .int x4), (5, .int x5)]) hx hb dmX13_makePermutations_38_a hl (by decide) rfl (fun ls hl => ?_)
          refine lv_iload hx hb dmX13_makePermutations_40_a (lv_at hl 5 rfl) ?_
          refine lv_iload hx hb dmX13_makePermutations_42_a (lv_at hl 6 rfl) ?_
          refine lv_iload_n hx hb dmX13_makePermutations_44_a rfl (lv_at hl 2 rfl) ?_
          refine lv_icmp_ge (tgt := 62) hx hb dmX13_makePermutations_45_a (by decide) (fun hc => ?_) (fun hc => ?_)
          · have hq := tw_it hq hc
            refine lv_iload hx hb dmX13_makePermutations_62_a (lv_at hl 0 rfl) ?_
            refine lv_iload hx hb dmX13_makePermutations_64_a (lv_at hl 6 rfl) ?_
            refine lv_icmp_ne (tgt := 73) hx hb dmX13_makePermutations_66_a (by decide) (fun hc => ?_) (fun hc => ?_)
            · have hq := tw_if hq hc
              refine lv_iconst (v := 0) hx hb dmX13_makePermutations_73_a (by decide) ?_
              exact ih_4 x1 x2 x3 x4 x5 (((x3 : Int32) >>> (((2 * x5) : Int32) &&& 31)) &&& 3) 0 0 0 x4 z H locs ls hM (lv_sub hl [1, 2, 3, 4, 5, 6, 0] rfl) hq
            · have hq := tw_it hq hc
              refine lv_iconst (v := 1) hx hb dmX13_makePermutations_69_a (by decide) ?_
              refine lv_goto (tgt := 74) hx hb dmX13_makePermutations_70_a (by decide) ?_
              exact ih_4 x1 x2 x3 x4 x5 (((x3 : Int32) >>> (((2 * x5) : Int32) &&& 31)) &&& 3) 0 0 1 x4 z H locs ls hM (lv_sub hl [1, 2, 3, 4, 5, 6, 0] rfl) hq
          · have hq := tw_if hq hc
            refine lv_iload hx hb dmX13_makePermutations_48_a (lv_at hl 0 rfl) ?_
            refine lv_iload_n hx hb dmX13_makePermutations_50_a rfl (lv_at hl 2 rfl) ?_
            refine lv_icmp_ge (tgt := 58) hx hb dmX13_makePermutations_51_a (by decide) (fun hc => ?_) (fun hc => ?_)
            · have hq := tw_it hq hc
              refine lv_iconst (v := 0) hx hb dmX13_makePermutations_58_a (by decide) ?_
              refine lv_goto (tgt := 74) hx hb dmX13_makePermutations_59_a (by decide) ?_
              exact ih_4 x1 x2 x3 x4 x5 (((x3 : Int32) >>> (((2 * x5) : Int32) &&& 31)) &&& 3) 0 0 0 x4 z H locs ls hM (lv_sub hl [1, 2, 3, 4, 5, 6, 0] rfl) hq
            · have hq := tw_if hq hc
              refine lv_iconst (v := 1) hx hb dmX13_makePermutations_54_a (by decide) ?_
              refine lv_goto (tgt := 74) hx hb dmX13_makePermutations_55_a (by decide) ?_
              exact ih_4 x1 x2 x3 x4 x5 (((x3 : Int32) >>> (((2 * x5) : Int32) &&& 31)) &&& 3) 0 0 1 x4 z H locs ls hM (lv_sub hl [1, 2, 3, 4, 5, 6, 0] rfl) hq
      · intro x1 x2 x3 x4 x5 x6 x7 x8 t0 t1 z H locs ls  hM hl hq
        have hq : qm_X13_makePermutations_4_a K (q_X13_makePermutations_a K k) x1 x2 x3 x4 x5 x6 x7 x8 t0 t1 z = some z1 := hq
        unfold qm_X13_makePermutations_4_a at hq
        refine lv_iand hx hb dmX13_makePermutations_74_a ?_
        refine lv_istore (lv' := [(4, .int (t1 &&& t0)), (0, .ref (u 0)), (1, .int x1), (2, .int x2), (3, .int x3), (5, .int x5), (6, .int x6)]) hx hb dmX13_makePermutations_75_a hl (by decide) rfl (fun ls hl => ?_)
        refine lv_iconst (v := 0) hx hb dmX13_makePermutations_77_a (by decide) ?_
        refine lv_istore (lv' := [(7, .int 0), (4, .int (t1 &&& t0)), (0, .ref (u 0)), (1, .int x1), (2, .int x2), (3, .int x3), (5, .int x5), (6, .int x6)]) hx hb dmX13_makePermutations_78_a hl (by decide) rfl (fun ls hl => ?_)
        exact ih_5 x1 x2 x3 (t1 &&& t0) x5 x6 0 0 0 0 z H locs ls hM (lv_sub hl [2, 3, 4, 5, 1, 6, 7, 0] rfl) hq
      · intro x1 x2 x3 x4 x5 x6 x7 x8 t0 t1 z H locs ls  hM hl hq
        have hq : qm_X13_makePermutations_5_a K (q_X13_makePermutations_a K k) x1 x2 x3 x4 x5 x6 x7 x8 t0 t1 z = some z1 := hq
        unfold qm_X13_makePermutations_5_a at hq
        refine lv_iload hx hb dmX13_makePermutations_80_a (lv_at hl 7 rfl) ?_
        refine lv_iload hx hb dmX13_makePermutations_82_a (lv_at hl 5 rfl) ?_
        refine lv_icmp_ge (tgt := 116) hx hb dmX13_makePermutations_84_a (by decide) (fun hc => ?_) (fun hc => ?_)
        · have hq := tw_it hq hc
          refine lv_iinc (v := (x5 + 1)) (lv' := [(5, .int (x5 + 1)), (0, .ref (u 0)), (1, .int x1), (2, .int x2), (3, .int x3), (4, .int x4), (6, .int x6), (7, .int x7)]) hx hb dmX13_makePermutations_116_a hl (k := 5) rfl rfl (by decide) rfl (fun ls hl => ?_)
          refine lv_goto (tgt := 24) hx hb dmX13_makePermutations_119_a (by decide) ?_
          exact ih_3 x1 x2 x3 x4 (x5 + 1) 0 0 0 0 0 z H locs ls hM (lv_sub hl [1, 2, 3, 4, 5, 0] rfl) hq
        · have hq := tw_if hq hc
          refine lv_iload hx hb dmX13_makePermutations_87_a (lv_at hl 4 rfl) ?_
          refine lv_iload_n hx hb dmX13_makePermutations_89_a rfl (lv_at hl 3 rfl) ?_
          refine lv_iconst (v := 2) hx hb dmX13_makePermutations_90_a (by decide) ?_
          refine lv_iload hx hb dmX13_makePermutations_91_a (lv_at hl 7 rfl) ?_
          refine lv_imul hx hb dmX13_makePermutations_93_a ?_
          refine lv_ishr hx hb dmX13_makePermutations_94_a ?_
          refine lv_iconst (v := 3) hx hb dmX13_makePermutations_95_a (by decide) ?_
          refine lv_iand hx hb dmX13_makePermutations_96_a ?_
          refine lv_iload hx hb dmX13_makePermutations_97_a (lv_at hl 6 rfl) ?_
          refine lv_icmp_eq (tgt := 106) hx hb dmX13_makePermutations_99_a (by decide) (fun hc => ?_) (fun hc => ?_)
          · have hq := tw_it hq hc
            refine lv_iconst (v := 0) hx hb dmX13_makePermutations_106_a (by decide) ?_
            exact ih_6 x1 x2 x3 x4 x5 x6 x7 0 0 x4 z H locs ls hM (lv_sub hl [0, 1, 2, 3, 4, 5, 6, 7] rfl) hq
          · have hq := tw_if hq hc
            refine lv_iconst (v := 1) hx hb dmX13_makePermutations_102_a (by decide) ?_
            refine lv_goto (tgt := 107) hx hb dmX13_makePermutations_103_a (by decide) ?_
            exact ih_6 x1 x2 x3 x4 x5 x6 x7 0 1 x4 z H locs ls hM (lv_sub hl [0, 1, 2, 3, 4, 5, 6, 7] rfl) hq
      · intro x1 x2 x3 x4 x5 x6 x7 x8 t0 t1 z H locs ls  hM hl hq
        have hq : qm_X13_makePermutations_6_a K (q_X13_makePermutations_a K k) x1 x2 x3 x4 x5 x6 x7 x8 t0 t1 z = some z1 := hq
        unfold qm_X13_makePermutations_6_a at hq
        refine lv_iand hx hb dmX13_makePermutations_107_a ?_
        refine lv_istore (lv' := [(4, .int (t1 &&& t0)), (0, .ref (u 0)), (1, .int x1), (2, .int x2), (3, .int x3), (5, .int x5), (6, .int x6), (7, .int x7)]) hx hb dmX13_makePermutations_108_a hl (by decide) rfl (fun ls hl => ?_)
        refine lv_iinc (v := (x7 + 1)) (lv' := [(7, .int (x7 + 1)), (4, .int (t1 &&& t0)), (0, .ref (u 0)), (1, .int x1), (2, .int x2), (3, .int x3), (5, .int x5), (6, .int x6)]) hx hb dmX13_makePermutations_110_a hl (k := 7) rfl rfl (by decide) rfl (fun ls hl => ?_)
        refine lv_goto (tgt := 80) hx hb dmX13_makePermutations_113_a (by decide) ?_
        exact ih_5 x1 x2 x3 (t1 &&& t0) x5 x6 (x7 + 1) 0 0 0 z H locs ls hM (lv_sub hl [2, 3, 4, 5, 1, 6, 7, 0] rfl) hq
      · intro x1 x2 x3 x4 x5 x6 x7 x8 t0 t1 z H locs ls  hM hl hq
        have hq : qm_X13_makePermutations_7_a K (q_X13_makePermutations_a K k) x1 x2 x3 x4 x5 x6 x7 x8 t0 t1 z = some z1 := hq
        unfold qm_X13_makePermutations_7_a at hq
        refine lv_iload hx hb dmX13_makePermutations_130_a (lv_at hl 5 rfl) ?_
        refine lv_iconst (v := 4) hx hb dmX13_makePermutations_132_a (by decide) ?_
        refine lv_icmp_ge (tgt := 166) hx hb dmX13_makePermutations_133_a (by decide) (fun hc => ?_) (fun hc => ?_)
        · have hq := tw_it hq hc
          refine lv_iinc (v := (x2 + 1)) (lv' := [(2, .int (x2 + 1)), (0, .ref (u 0)), (1, .int x1), (3, .int x3), (4, .int x4), (5, .int x5)]) hx hb dmX13_makePermutations_166_a hl (k := 2) rfl rfl (by decide) rfl (fun ls hl => ?_)
          exact ih_8 x1 (x2 + 1) x3 x4 x5 0 0 0 0 0 z H locs ls hM (lv_sub hl [1, 2, 0, 3, 4, 5] rfl) hq
        · have hq := tw_if hq hc
          refine lv_aload_n hx hb dmX13_makePermutations_136_a rfl (lv_at hl 0 rfl) ?_
          refine mg13_268_a hx hb hT hown hK hM dmX13_makePermutations_137_a ?_
          refine lv_bipush (v := 96) hx hb dmX13_makePermutations_140_a (by decide) ?_
          refine lv_iload_n hx hb dmX13_makePermutations_142_a rfl (lv_at hl 1 rfl) ?_
          refine lv_imul hx hb dmX13_makePermutations_143_a ?_
          refine lv_iconst (v := 4) hx hb dmX13_makePermutations_144_a (by decide) ?_
          refine lv_iload_n hx hb dmX13_makePermutations_145_a rfl (lv_at hl 2 rfl) ?_
          refine lv_imul hx hb dmX13_makePermutations_146_a ?_
          refine lv_iadd hx hb dmX13_makePermutations_147_a ?_
          refine lv_iload hx hb dmX13_makePermutations_148_a (lv_at hl 5 rfl) ?_
          refine lv_iadd hx hb dmX13_makePermutations_150_a ?_
          refine lv_iload_n hx hb dmX13_makePermutations_151_a rfl (lv_at hl 3 rfl) ?_
          refine lv_iconst (v := 2) hx hb dmX13_makePermutations_152_a (by decide) ?_
          refine lv_iload hx hb dmX13_makePermutations_153_a (lv_at hl 5 rfl) ?_
          refine lv_imul hx hb dmX13_makePermutations_155_a ?_
          refine lv_ishr hx hb dmX13_makePermutations_156_a ?_
          refine lv_iconst (v := 3) hx hb dmX13_makePermutations_157_a (by decide) ?_
          refine lv_iand hx hb dmX13_makePermutations_158_a ?_
          refine tw_iast mX_ok_a hU hx hb hK hM mr_74_a hq dmX13_makePermutations_159_a (fun z1 H locs hM hq => ?_)
          refine lv_iinc (v := (x5 + 1)) (lv' := [(5, .int (x5 + 1)), (0, .ref (u 0)), (1, .int x1), (2, .int x2), (3, .int x3), (4, .int x4)]) hx hb dmX13_makePermutations_160_a hl (k := 5) rfl rfl (by decide) rfl (fun ls hl => ?_)
          refine lv_goto (tgt := 130) hx hb dmX13_makePermutations_163_a (by decide) ?_
          exact ih_7 x1 x2 x3 x4 (x5 + 1) 0 0 0 0 0 z1 H locs ls hM (lv_sub hl [1, 2, 3, 4, 5, 0] rfl) hq
      · intro x1 x2 x3 x4 x5 x6 x7 x8 t0 t1 z H locs ls  hM hl hq
        have hq : qm_X13_makePermutations_8_a K (q_X13_makePermutations_a K k) x1 x2 x3 x4 x5 x6 x7 x8 t0 t1 z = some z1 := hq
        unfold qm_X13_makePermutations_8_a at hq
        refine lv_iinc (v := (x3 + 1)) (lv' := [(3, .int (x3 + 1)), (0, .ref (u 0)), (1, .int x1), (2, .int x2), (4, .int x4), (5, .int x5)]) hx hb dmX13_makePermutations_169_a hl (k := 3) rfl rfl (by decide) rfl (fun ls hl => ?_)
        refine lv_goto (tgt := 11) hx hb dmX13_makePermutations_172_a (by decide) ?_
        exact ih_2 x1 x2 (x3 + 1) 0 0 0 0 0 0 0 z H locs ls hM (lv_sub hl [1, 2, 3, 0] rfl) hq
      · intro x1 x2 x3 x4 x5 x6 x7 x8 t0 t1 z H locs ls  hM hl hq
        have hq : qm_X13_makePermutations_9_a K (q_X13_makePermutations_a K k) x1 x2 x3 x4 x5 x6 x7 x8 t0 t1 z = some z1 := hq
        unfold qm_X13_makePermutations_9_a at hq
        refine lv_iload_n hx hb dmX13_makePermutations_177_a rfl (lv_at hl 3 rfl) ?_
        refine lv_iload_n hx hb dmX13_makePermutations_178_a rfl (lv_at hl 2 rfl) ?_
        refine lv_icmp_ge (tgt := 375) hx hb dmX13_makePermutations_179_a (by decide) (fun hc => ?_) (fun hc => ?_)
        · have hq := tw_it hq hc
          refine lv_iinc (v := (x1 + 1)) (lv' := [(1, .int (x1 + 1)), (0, .ref (u 0)), (2, .int x2), (3, .int x3)]) hx hb dmX13_makePermutations_375_a hl (k := 1) rfl rfl (by decide) rfl (fun ls hl => ?_)
          refine lv_goto (tgt := 2) hx hb dmX13_makePermutations_378_a (by decide) ?_
          exact ih_1 (x1 + 1) 0 0 0 0 0 0 0 0 0 z H locs ls hM (lv_sub hl [1, 0] rfl) hq
        · have hq := tw_if hq hc
          refine lv_iconst (v := 0) hx hb dmX13_makePermutations_182_a (by decide) ?_
          refine lv_istore (lv' := [(4, .int 0), (0, .ref (u 0)), (1, .int x1), (2, .int x2), (3, .int x3)]) hx hb dmX13_makePermutations_183_a hl (by decide) rfl (fun ls hl => ?_)
          exact ih_10 x1 x2 x3 0 0 0 0 0 0 0 z H locs ls hM (lv_sub hl [1, 2, 3, 4, 0] rfl) hq
      · intro x1 x2 x3 x4 x5 x6 x7 x8 t0 t1 z H locs ls  hM hl hq
        have hq : qm_X13_makePermutations_10_a K (q_X13_makePermutations_a K k) x1 x2 x3 x4 x5 x6 x7 x8 t0 t1 z = some z1 := hq
        unfold qm_X13_makePermutations_10_a at hq
        refine lv_iload hx hb dmX13_makePermutations_185_a (lv_at hl 4 rfl) ?_
        refine lv_iload_n hx hb dmX13_makePermutations_187_a rfl (lv_at hl 2 rfl) ?_
        refine lv_icmp_ge (tgt := 369) hx hb dmX13_makePermutations_188_a (by decide) (fun hc => ?_) (fun hc => ?_)
        · have hq := tw_it hq hc
          refine lv_iinc (v := (x3 + 1)) (lv' := [(3, .int (x3 + 1)), (0, .ref (u 0)), (1, .int x1), (2, .int x2), (4, .int x4)]) hx hb dmX13_makePermutations_369_a hl (k := 3) rfl rfl (by decide) rfl (fun ls hl => ?_)
          refine lv_goto (tgt := 177) hx hb dmX13_makePermutations_372_a (by decide) ?_
          exact ih_9 x1 x2 (x3 + 1) 0 0 0 0 0 0 0 z H locs ls hM (lv_sub hl [1, 2, 3, 0] rfl) hq
        · have hq := tw_if hq hc
          refine lv_iconst (v := 0) hx hb dmX13_makePermutations_191_a (by decide) ?_
          refine lv_istore (lv' := [(5, .int 0), (0, .ref (u 0)), (1, .int x1), (2, .int x2), (3, .int x3), (4, .int x4)]) hx hb dmX13_makePermutations_192_a hl (by decide) rfl (fun ls hl => ?_)
          exact ih_11 x1 x2 x3 x4 0 0 0 0 0 0 z H locs ls hM (lv_sub hl [1, 2, 3, 4, 5, 0] rfl) hq
      · intro x1 x2 x3 x4 x5 x6 x7 x8 t0 t1 z H locs ls  hM hl hq
        have hq : qm_X13_makePermutations_11_a K (q_X13_makePermutations_a K k) x1 x2 x3 x4 x5 x6 x7 x8 t0 t1 z = some z1 := hq
        unfold qm_X13_makePermutations_11_a at hq
        refine lv_iload hx hb dmX13_makePermutations_194_a (lv_at hl 5 rfl) ?_
        refine lv_iload_n hx hb dmX13_makePermutations_196_a rfl (lv_at hl 2 rfl) ?_
        refine lv_icmp_ge (tgt := 363) hx hb dmX13_makePermutations_197_a (by decide) (fun hc => ?_) (fun hc => ?_)
        · have hq := tw_it hq hc
          refine lv_iinc (v := (x4 + 1)) (lv' := [(4, .int (x4 + 1)), (0, .ref (u 0)), (1, .int x1), (2, .int x2), (3, .int x3), (5, .int x5)]) hx hb dmX13_makePermutations_363_a hl (k := 4) rfl rfl (by decide) rfl (fun ls hl => ?_)
          refine lv_goto (tgt := 185) hx hb dmX13_makePermutations_366_a (by decide) ?_
          exact ih_10 x1 x2 x3 (x4 + 1) 0 0 0 0 0 0 z H locs ls hM (lv_sub hl [1, 2, 3, 4, 0] rfl) hq
        · have hq := tw_if hq hc
          refine lv_iconst (v := 1) hx hb dmX13_makePermutations_200_a (by decide) ?_
          refine lv_istore (lv' := [(6, .int 1), (0, .ref (u 0)), (1, .int x1), (2, .int x2), (3, .int x3), (4, .int x4), (5, .int x5)]) hx hb dmX13_makePermutations_201_a hl (by decide) rfl (fun ls hl => ?_)
          refine lv_iconst (v := 1) hx hb dmX13_makePermutations_203_a (by decide) ?_
          refine lv_istore (lv' := [(7, .int 1), (6, .int 1), (0, .ref (u 0)), (1, .int x1), (2, .int x2), (3, .int x3), (4, .int x4), (5, .int x5)]) hx hb dmX13_makePermutations_204_a hl (by decide) rfl (fun ls hl => ?_)
          refine lv_iconst (v := 0) hx hb dmX13_makePermutations_206_a (by decide) ?_
          refine lv_istore (lv' := [(8, .int 0), (7, .int 1), (6, .int 1), (0, .ref (u 0)), (1, .int x1), (2, .int x2), (3, .int x3), (4, .int x4), (5, .int x5)]) hx hb dmX13_makePermutations_207_a hl (by decide) rfl (fun ls hl => ?_)
          exact ih_12 x1 x2 x3 x4 x5 1 1 0 0 0 z H locs ls hM (lv_sub hl [3, 4, 5, 6, 7, 8, 2, 1, 0] rfl) hq
      · intro x1 x2 x3 x4 x5 x6 x7 x8 t0 t1 z H locs ls  hM hl hq
        have hq : qm_X13_makePermutations_12_a K (q_X13_makePermutations_a K k) x1 x2 x3 x4 x5 x6 x7 x8 t0 t1 z = some z1 := hq
        unfold qm_X13_makePermutations_12_a at hq
        refine lv_iload hx hb dmX13_makePermutations_209_a (lv_at hl 8 rfl) ?_
        refine lv_iload_n hx hb dmX13_makePermutations_211_a rfl (lv_at hl 1 rfl) ?_
        refine lv_icmp_ge (tgt := 307) hx hb dmX13_makePermutations_212_a (by decide) (fun hc => ?_) (fun hc => ?_)
        · have hq := tw_it hq hc
          refine lv_iload hx hb dmX13_makePermutations_307_a (lv_at hl 6 rfl) ?_
          refine lv_if_eq (tgt := 332) hx hb dmX13_makePermutations_309_a (by decide) (fun hc => ?_) (fun hc => ?_)
          · have hq := tw_it hq hc
            exact ih_15 x1 x2 x3 x4 x5 x6 x7 x8 0 0 z H locs ls hM (lv_sub hl [0, 1, 2, 3, 4, 5, 6, 7, 8] rfl) hq
          · have hq := tw_if hq hc
            refine lv_aload_n hx hb dmX13_makePermutations_312_a rfl (lv_at hl 0 rfl) ?_
            refine mg13_271_a hx hb hT hown hK hM dmX13_makePermutations_313_a ?_
            refine lv_sipush (v := 576) hx hb dmX13_makePermutations_316_a (by decide) ?_
            refine lv_iload_n hx hb dmX13_makePermutations_319_a rfl (lv_at hl 1 rfl) ?_
            refine lv_imul hx hb dmX13_makePermutations_320_a ?_
            refine lv_bipush (v := 24) hx hb dmX13_makePermutations_321_a (by decide) ?_
            refine lv_iload_n hx hb dmX13_makePermutations_323_a rfl (lv_at hl 3 rfl) ?_
            refine lv_imul hx hb dmX13_makePermutations_324_a ?_
            refine lv_iadd hx hb dmX13_makePermutations_325_a ?_
            refine lv_iload hx hb dmX13_makePermutations_326_a (lv_at hl 4 rfl) ?_
            refine lv_iadd hx hb dmX13_makePermutations_328_a ?_
            refine lv_iload hx hb dmX13_makePermutations_329_a (lv_at hl 5 rfl) ?_
            refine tw_iast mX_ok_a hU hx hb hK hM mr_75_a hq dmX13_makePermutations_331_a (fun z2 H locs hM hq => ?_)
            exact ih_15 x1 x2 x3 x4 x5 x6 x7 x8 0 0 z2 H locs ls hM (lv_sub hl [0, 1, 2, 3, 4, 5, 6, 7, 8] rfl) hq
        · have hq := tw_if hq hc
          refine lv_iload hx hb dmX13_makePermutations_215_a (lv_at hl 6 rfl) ?_
          refine lv_aload_n hx hb dmX13_makePermutations_217_a rfl (lv_at hl 0 rfl) ?_
          refine lv_iload_n hx hb dmX13_makePermutations_218_a rfl (lv_at hl 1 rfl) ?_
          refine lv_iload hx hb dmX13_makePermutations_219_a (lv_at hl 5 rfl) ?_
          refine lv_aload_n hx hb dmX13_makePermutations_221_a rfl (lv_at hl 0 rfl) ?_
          refine lv_iload_n hx hb dmX13_makePermutations_222_a rfl (lv_at hl 1 rfl) ?_
          refine lv_iload_n hx hb dmX13_makePermutations_223_a rfl (lv_at hl 3 rfl) ?_
          refine lv_iload hx hb dmX13_makePermutations_224_a (lv_at hl 8 rfl) ?_
          obtain ⟨v4, z3, hcq, hq⟩ := tw_cl1 hq
          refine tw_cali hM (va_runV (As := [.int x1, .int x3, .int x8]) (rest := [.int x5, .int x1, .ref (u 0), .int x6]) ⟨hx, hb, hml, hown, hts⟩ (km_X13_image_a l D q u hU K x1 x3 x8 z z3 v4 hcq) (cwV 3 hts (tw_gV wM_good_a wq_33_a wq_34_a wq_35_a wq_22_a wq_4_a) rfl rfl rfl cd_X13_image_a ⟨(Nat.le_of_ble_eq_true rfl), (Nat.le_of_ble_eq_true rfl)⟩) (mw_preV_a hK hN hM mo_0_a rfl) rfl rfl hl.1 rfl (lv_room (Nat.le_of_ble_eq_true rfl)) dmX13_makePermutations_226_a ⟨(Nat.le_of_ble_eq_true rfl), (Nat.le_of_ble_eq_true rfl)⟩) (fun H locs hM => ?_)
          obtain ⟨v6, z5, hcq, hq⟩ := tw_cl1 hq
          refine tw_cali hM (va_runV (As := [.int x1, .int x5, .int v4]) (rest := [.int x6]) ⟨hx, hb, hml, hown, hts⟩ (km_X13_image_a l D q u hU K x1 x5 v4 z3 z5 v6 hcq) (cwV 3 hts (tw_gV wM_good_a wq_33_a wq_34_a wq_35_a wq_22_a wq_4_a) rfl rfl rfl cd_X13_image_a ⟨(Nat.le_of_ble_eq_true rfl), (Nat.le_of_ble_eq_true rfl)⟩) (mw_preV_a hK hN hM mo_0_a rfl) rfl rfl hl.1 rfl (lv_room (Nat.le_of_ble_eq_true rfl)) dmX13_makePermutations_229_a ⟨(Nat.le_of_ble_eq_true rfl), (Nat.le_of_ble_eq_true rfl)⟩) (fun H locs hM => ?_)
          refine lv_aload_n hx hb dmX13_makePermutations_232_a rfl (lv_at hl 0 rfl) ?_
          refine lv_iload_n hx hb dmX13_makePermutations_233_a rfl (lv_at hl 1 rfl) ?_
          refine lv_iload_n hx hb dmX13_makePermutations_234_a rfl (lv_at hl 3 rfl) ?_
          refine lv_aload_n hx hb dmX13_makePermutations_235_a rfl (lv_at hl 0 rfl) ?_
          refine lv_iload_n hx hb dmX13_makePermutations_236_a rfl (lv_at hl 1 rfl) ?_
          refine lv_iload hx hb dmX13_makePermutations_237_a (lv_at hl 4 rfl) ?_
          refine lv_iload hx hb dmX13_makePermutations_239_a (lv_at hl 8 rfl) ?_
          obtain ⟨v8, z7, hcq, hq⟩ := tw_cl1 hq
          refine tw_cali hM (va_runV (As := [.int x1, .int x4, .int x8]) (rest := [.int x3, .int x1, .ref (u 0), .int v6, .int x6]) ⟨hx, hb, hml, hown, hts⟩ (km_X13_image_a l D q u hU K x1 x4 x8 z5 z7 v8 hcq) (cwV 3 hts (tw_gV wM_good_a wq_33_a wq_34_a wq_35_a wq_22_a wq_4_a) rfl rfl rfl cd_X13_image_a ⟨(Nat.le_of_ble_eq_true rfl), (Nat.le_of_ble_eq_true rfl)⟩) (mw_preV_a hK hN hM mo_0_a rfl) rfl rfl hl.1 rfl (lv_room (Nat.le_of_ble_eq_true rfl)) dmX13_makePermutations_241_a ⟨(Nat.le_of_ble_eq_true rfl), (Nat.le_of_ble_eq_true rfl)⟩) (fun H locs hM => ?_)
          obtain ⟨v10, z9, hcq, hq⟩ := tw_cl1 hq
          refine tw_cali hM (va_runV (As := [.int x1, .int x3, .int v8]) (rest := [.int v6, .int x6]) ⟨hx, hb, hml, hown, hts⟩ (km_X13_image_a l D q u hU K x1 x3 v8 z7 z9 v10 hcq) (cwV 3 hts (tw_gV wM_good_a wq_33_a wq_34_a wq_35_a wq_22_a wq_4_a) rfl rfl rfl cd_X13_image_a ⟨(Nat.le_of_ble_eq_true rfl), (Nat.le_of_ble_eq_true rfl)⟩) (mw_preV_a hK hN hM mo_0_a rfl) rfl rfl hl.1 rfl (lv_room (Nat.le_of_ble_eq_true rfl)) dmX13_makePermutations_244_a ⟨(Nat.le_of_ble_eq_true rfl), (Nat.le_of_ble_eq_true rfl)⟩) (fun H locs hM => ?_)
          refine lv_icmp_ne (tgt := 254) hx hb dmX13_makePermutations_247_a (by decide) (fun hc => ?_) (fun hc => ?_)
          · have hq := tw_if hq hc
            refine lv_iconst (v := 0) hx hb dmX13_makePermutations_254_a (by decide) ?_
            exact ih_13 x1 x2 x3 x4 x5 x6 x7 x8 0 x6 z9 H locs ls hM (lv_sub hl [0, 1, 2, 3, 4, 5, 6, 7, 8] rfl) hq
          · have hq := tw_it hq hc
            refine lv_iconst (v := 1) hx hb dmX13_makePermutations_250_a (by decide) ?_
            refine lv_goto (tgt := 255) hx hb dmX13_makePermutations_251_a (by decide) ?_
            exact ih_13 x1 x2 x3 x4 x5 x6 x7 x8 1 x6 z9 H locs ls hM (lv_sub hl [0, 1, 2, 3, 4, 5, 6, 7, 8] rfl) hq
      · intro x1 x2 x3 x4 x5 x6 x7 x8 t0 t1 z H locs ls  hM hl hq
        have hq : qm_X13_makePermutations_13_a K (q_X13_makePermutations_a K k) x1 x2 x3 x4 x5 x6 x7 x8 t0 t1 z = some z1 := hq
        unfold qm_X13_makePermutations_13_a at hq
        refine lv_iand hx hb dmX13_makePermutations_255_a ?_
        refine lv_istore (lv' := [(6, .int (t1 &&& t0)), (0, .ref (u 0)), (1, .int x1), (2, .int x2), (3, .int x3), (4, .int x4), (5, .int x5), (7, .int x7), (8, .int x8)]) hx hb dmX13_makePermutations_256_a hl (by decide) rfl (fun ls hl => ?_)
        refine lv_iload hx hb dmX13_makePermutations_258_a (lv_at hl 7 rfl) ?_
        refine lv_aload_n hx hb dmX13_makePermutations_260_a rfl (lv_at hl 1 rfl) ?_
        refine lv_iload_n hx hb dmX13_makePermutations_261_a rfl (lv_at hl 2 rfl) ?_
        refine lv_iload_n hx hb dmX13_makePermutations_262_a rfl (lv_at hl 4 rfl) ?_
        refine lv_aload_n hx hb dmX13_makePermutations_263_a rfl (lv_at hl 1 rfl) ?_
        refine lv_iload_n hx hb dmX13_makePermutations_264_a rfl (lv_at hl 2 rfl) ?_
        refine lv_iload hx hb dmX13_makePermutations_265_a (lv_at hl 6 rfl) ?_
        refine lv_iload hx hb dmX13_makePermutations_267_a (lv_at hl 8 rfl) ?_
        obtain ⟨v12, z11, hcq, hq⟩ := tw_cl1 hq
        refine tw_cali hM (va_runV (As := [.int x1, .int x5, .int x8]) (rest := [.int x3, .int x1, .ref (u 0), .int x7]) ⟨hx, hb, hml, hown, hts⟩ (km_X13_image_a l D q u hU K x1 x5 x8 z z11 v12 hcq) (cwV 3 hts (tw_gV wM_good_a wq_33_a wq_34_a wq_35_a wq_22_a wq_4_a) rfl rfl rfl cd_X13_image_a ⟨(Nat.le_of_ble_eq_true rfl), (Nat.le_of_ble_eq_true rfl)⟩) (mw_preV_a hK hN hM mo_0_a rfl) rfl rfl hl.1 rfl (lv_room (Nat.le_of_ble_eq_true rfl)) dmX13_makePermutations_269_a ⟨(Nat.le_of_ble_eq_true rfl), (Nat.le_of_ble_eq_true rfl)⟩) (fun H locs hM => ?_)
        obtain ⟨v14, z13, hcq, hq⟩ := tw_cl1 hq
        refine tw_cali hM (va_runV (As := [.int x1, .int x3, .int v12]) (rest := [.int x7]) ⟨hx, hb, hml, hown, hts⟩ (km_X13_image_a l D q u hU K x1 x3 v12 z11 z13 v14 hcq) (cwV 3 hts (tw_gV wM_good_a wq_33_a wq_34_a wq_35_a wq_22_a wq_4_a) rfl rfl rfl cd_X13_image_a ⟨(Nat.le_of_ble_eq_true rfl), (Nat.le_of_ble_eq_true rfl)⟩) (mw_preV_a hK hN hM mo_0_a rfl) rfl rfl hl.1 rfl (lv_room (Nat.le_of_ble_eq_true rfl)) dmX13_makePermutations_272_a ⟨(Nat.le_of_ble_eq_true rfl), (Nat.le_of_ble_eq_true rfl)⟩) (fun H locs hM => ?_)
        refine lv_aload_n hx hb dmX13_makePermutations_275_a rfl (lv_at hl 1 rfl) ?_
        refine lv_iload_n hx hb dmX13_makePermutations_276_a rfl (lv_at hl 2 rfl) ?_
        refine lv_iload hx hb dmX13_makePermutations_277_a (lv_at hl 5 rfl) ?_
        refine lv_aload_n hx hb dmX13_makePermutations_279_a rfl (lv_at hl 1 rfl) ?_
        refine lv_iload_n hx hb dmX13_makePermutations_280_a rfl (lv_at hl 2 rfl) ?_
        refine lv_iload_n hx hb dmX13_makePermutations_281_a rfl (lv_at hl 4 rfl) ?_
        refine lv_iload hx hb dmX13_makePermutations_282_a (lv_at hl 8 rfl) ?_
        obtain ⟨v16, z15, hcq, hq⟩ := tw_cl1 hq
        refine tw_cali hM (va_runV (As := [.int x1, .int x3, .int x8]) (rest := [.int x4, .int x1, .ref (u 0), .int v14, .int x7]) ⟨hx, hb, hml, hown, hts⟩ (km_X13_image_a l D q u hU K x1 x3 x8 z13 z15 v16 hcq) (cwV 3 hts (tw_gV wM_good_a wq_33_a wq_34_a wq_35_a wq_22_a wq_4_a) rfl rfl rfl cd_X13_image_a ⟨(Nat.le_of_ble_eq_true rfl), (Nat.le_of_ble_eq_true rfl)⟩) (mw_preV_a hK hN hM mo_0_a rfl) rfl rfl hl.1 rfl (lv_room (Nat.le_of_ble_eq_true rfl)) dmX13_makePermutations_284_a ⟨(Nat.le_of_ble_eq_true rfl), (Nat.le_of_ble_eq_true rfl)⟩) (fun H locs hM => ?_)
        obtain ⟨v18, z17, hcq, hq⟩ := tw_cl1 hq
        refine tw_cali hM (va_runV (As := [.int x1, .int x4, .int v16]) (rest := [.int v14, .int x7]) ⟨hx, hb, hml, hown, hts⟩ (km_X13_image_a l D q u hU K x1 x4 v16 z15 z17 v18 hcq) (cwV 3 hts (tw_gV wM_good_a wq_33_a wq_34_a wq_35_a wq_22_a wq_4_a) rfl rfl rfl cd_X13_image_a ⟨(Nat.le_of_ble_eq_true rfl), (Nat.le_of_ble_eq_true rfl)⟩) (mw_preV_a hK hN hM mo_0_a rfl) rfl rfl hl.1 rfl (lv_room (Nat.le_of_ble_eq_true rfl)) dmX13_makePermutations_287_a ⟨(Nat.le_of_ble_eq_true rfl), (Nat.le_of_ble_eq_true rfl)⟩) (fun H locs hM => ?_)
        refine lv_icmp_ne (tgt := 297) hx hb dmX13_makePermutations_290_a (by decide) (fun hc => ?_) (fun hc => ?_)
        · have hq := tw_if hq hc
          refine lv_iconst (v := 0) hx hb dmX13_makePermutations_297_a (by decide) ?_
          exact ih_14 x1 x2 x3 x4 x5 (t1 &&& t0) x7 x8 0 x7 z17 H locs ls hM (lv_sub hl [1, 2, 3, 4, 5, 6, 0, 7, 8] rfl) hq
        · have hq := tw_it hq hc
          refine lv_iconst (v := 1) hx hb dmX13_makePermutations_293_a (by decide) ?_
          refine lv_goto (tgt := 298) hx hb dmX13_makePermutations_294_a (by decide) ?_
          exact ih_14 x1 x2 x3 x4 x5 (t1 &&& t0) x7 x8 1 x7 z17 H locs ls hM (lv_sub hl [1, 2, 3, 4, 5, 6, 0, 7, 8] rfl) hq
      · intro x1 x2 x3 x4 x5 x6 x7 x8 t0 t1 z H locs ls  hM hl hq
        have hq : qm_X13_makePermutations_14_a K (q_X13_makePermutations_a K k) x1 x2 x3 x4 x5 x6 x7 x8 t0 t1 z = some z1 := hq
        unfold qm_X13_makePermutations_14_a at hq
        refine lv_iand hx hb dmX13_makePermutations_298_a ?_
        refine lv_istore (lv' := [(7, .int (t1 &&& t0)), (0, .ref (u 0)), (1, .int x1), (2, .int x2), (3, .int x3), (4, .int x4), (5, .int x5), (6, .int x6), (8, .int x8)]) hx hb dmX13_makePermutations_299_a hl (by decide) rfl (fun ls hl => ?_)
        refine lv_iinc (v := (x8 + 1)) (lv' := [(8, .int (x8 + 1)), (7, .int (t1 &&& t0)), (0, .ref (u 0)), (1, .int x1), (2, .int x2), (3, .int x3), (4, .int x4), (5, .int x5), (6, .int x6)]) hx hb dmX13_makePermutations_301_a hl (k := 8) rfl rfl (by decide) rfl (fun ls hl => ?_)
        refine lv_goto (tgt := 209) hx hb dmX13_makePermutations_304_a (by decide) ?_
        exact ih_12 x1 x2 x3 x4 x5 x6 (t1 &&& t0) (x8 + 1) 0 0 z H locs ls hM (lv_sub hl [2, 3, 4, 5, 6, 7, 8, 1, 0] rfl) hq
      · intro x1 x2 x3 x4 x5 x6 x7 x8 t0 t1 z H locs ls  hM hl hq
        have hq : qm_X13_makePermutations_15_a K (q_X13_makePermutations_a K k) x1 x2 x3 x4 x5 x6 x7 x8 t0 t1 z = some z1 := hq
        unfold qm_X13_makePermutations_15_a at hq
        refine lv_iload hx hb dmX13_makePermutations_332_a (lv_at hl 7 rfl) ?_
        refine lv_if_eq (tgt := 357) hx hb dmX13_makePermutations_334_a (by decide) (fun hc => ?_) (fun hc => ?_)
        · have hq := tw_it hq hc
          exact ih_16 x1 x2 x3 x4 x5 x6 x7 x8 0 0 z H locs ls hM (lv_sub hl [0, 1, 2, 3, 4, 5, 6, 7, 8] rfl) hq
        · have hq := tw_if hq hc
          refine lv_aload_n hx hb dmX13_makePermutations_337_a rfl (lv_at hl 0 rfl) ?_
          refine mg13_274_a hx hb hT hown hK hM dmX13_makePermutations_338_a ?_
          refine lv_sipush (v := 576) hx hb dmX13_makePermutations_341_a (by decide) ?_
          refine lv_iload_n hx hb dmX13_makePermutations_344_a rfl (lv_at hl 1 rfl) ?_
          refine lv_imul hx hb dmX13_makePermutations_345_a ?_
          refine lv_bipush (v := 24) hx hb dmX13_makePermutations_346_a (by decide) ?_
          refine lv_iload_n hx hb dmX13_makePermutations_348_a rfl (lv_at hl 3 rfl) ?_
          refine lv_imul hx hb dmX13_makePermutations_349_a ?_
          refine lv_iadd hx hb dmX13_makePermutations_350_a ?_
          refine lv_iload hx hb dmX13_makePermutations_351_a (lv_at hl 4 rfl) ?_
          refine lv_iadd hx hb dmX13_makePermutations_353_a ?_
          refine lv_iload hx hb dmX13_makePermutations_354_a (lv_at hl 5 rfl) ?_
          refine tw_iast mX_ok_a hU hx hb hK hM mr_76_a hq dmX13_makePermutations_356_a (fun z19 H locs hM hq => ?_)
          exact ih_16 x1 x2 x3 x4 x5 x6 x7 x8 0 0 z19 H locs ls hM (lv_sub hl [0, 1, 2, 3, 4, 5, 6, 7, 8] rfl) hq
      · intro x1 x2 x3 x4 x5 x6 x7 x8 t0 t1 z H locs ls  hM hl hq
        have hq : qm_X13_makePermutations_16_a K (q_X13_makePermutations_a K k) x1 x2 x3 x4 x5 x6 x7 x8 t0 t1 z = some z1 := hq
        unfold qm_X13_makePermutations_16_a at hq
        refine lv_iinc (v := (x5 + 1)) (lv' := [(5, .int (x5 + 1)), (0, .ref (u 0)), (1, .int x1), (2, .int x2), (3, .int x3), (4, .int x4), (6, .int x6), (7, .int x7), (8, .int x8)]) hx hb dmX13_makePermutations_357_a hl (k := 5) rfl rfl (by decide) rfl (fun ls hl => ?_)
        refine lv_goto (tgt := 194) hx hb dmX13_makePermutations_360_a (by decide) ?_
        exact ih_11 x1 x2 x3 x4 (x5 + 1) 0 0 0 0 0 z H locs ls hM (lv_sub hl [1, 2, 3, 4, 5, 0] rfl) hq
  exact (key K).1 0 0 0 0 0 0 0 0 0 0 z s.heap [] ls  hM (lv_sub hl [0] rfl) hq
