def ci_X1_b1b : List Nat := [43000]
def cw_X1_b1b (n : Nat) : Prop := n ∈ ci_X1_b1b
theorem co_X1_b1b {n : Nat} (hn : cw_X1_b1b n) : tw_ob cT1b n 4 (cX_o1 n) := by
  have key : ∀ n, n ∈ ci_X1_b1b → (n ∈ cT1b.1 ∧ cT1b.2 n = (9, 4, cX_o1 n)) := by decide +kernel
  exact (key n hn)
theorem cs_X1_0_b1b {n : Nat} (hn : cw_X1_b1b n) : cw_X7 (n + 1000) := by
  have key : ∀ n, n ∈ ci_X1_b1b → n + 1000 ∈ ci_X7 := by decide +kernel
  exact key n hn
theorem cr_X1_1_b1b {n : Nat} (hn : cw_X1_b1b n) : tw_in cT1b (n + 2) 1 := by
  have key : ∀ n, n ∈ ci_X1_b1b → (n + 2 ∈ cT1b.1 ∧ (cT1b.2 (n + 2)).1 = 1) := by decide +kernel
  exact (key n hn)
theorem cr_X1_2_b1b {n : Nat} (hn : cw_X1_b1b n) : tw_in cT1b (n + 3) 0 := by
  have key : ∀ n, n ∈ ci_X1_b1b → (n + 3 ∈ cT1b.1 ∧ (cT1b.2 (n + 3)).1 = 0) := by decide +kernel
  exact (key n hn)
theorem cr_X1_3_b1b {n : Nat} (hn : cw_X1_b1b n) : tw_in cT1b (n + 4) 1 := by
  have key : ∀ n, n ∈ ci_X1_b1b → (n + 4 ∈ cT1b.1 ∧ (cT1b.2 (n + 4)).1 = 1) := by decide +kernel
  exact (key n hn)
theorem cr_X1_4_b1b {n : Nat} (hn : cw_X1_b1b n) : tw_in cT1b (n + 5) 0 := by
  have key : ∀ n, n ∈ ci_X1_b1b → (n + 5 ∈ cT1b.1 ∧ (cT1b.2 (n + 5)).1 = 0) := by decide +kernel
  exact (key n hn)
theorem cr_X1_5_b1b {n : Nat} (hn : cw_X1_b1b n) : tw_in cT1b (n + 6) 5 := by
  have key : ∀ n, n ∈ ci_X1_b1b → (n + 6 ∈ cT1b.1 ∧ (cT1b.2 (n + 6)).1 = 5) := by decide +kernel
  exact (key n hn)
theorem cg_X1_5_b1b {n j : Nat} (hn : cw_X1_b1b n) (hj : j < 11) : tw_in cT1b (n + 2001 + j) 0 := by
  have key : ∀ n, n ∈ ci_X1_b1b → ∀ j, j < 11 → (n + 2001 + j ∈ cT1b.1 ∧ (cT1b.2 (n + 2001 + j)).1 = 0) := by decide +kernel
  exact (key n hn j hj)
theorem cn_X1_5_b1b {n : Nat} (hn : cw_X1_b1b n) : (cT1b.2 (n + 6)).2.1 = 11 ∧ ∀ j, j < 11 → (cT1b.2 (n + 6)).2.2[j]? = some (1, n + 2001 + j) := by
  have key : ∀ n, n ∈ ci_X1_b1b → ((cT1b.2 (n + 6)).1 ≠ 0 ∧ (cT1b.2 (n + 6)).2.1 = 11 ∧ ∀ j, j < 11 → (cT1b.2 (n + 6)).2.2[j]? = some (1, n + 2001 + j)) := by decide +kernel
  exact (key n hn).2
theorem cr_X1_6_b1b {n : Nat} (hn : cw_X1_b1b n) : tw_in cT1b (n + 7) 0 := by
  have key : ∀ n, n ∈ ci_X1_b1b → (n + 7 ∈ cT1b.1 ∧ (cT1b.2 (n + 7)).1 = 0) := by decide +kernel
  exact (key n hn)
theorem cr_X1_7_b1b {n : Nat} (hn : cw_X1_b1b n) : tw_in cT1b (n + 8) 0 := by
  have key : ∀ n, n ∈ ci_X1_b1b → (n + 8 ∈ cT1b.1 ∧ (cT1b.2 (n + 8)).1 = 0) := by decide +kernel
  exact (key n hn)
theorem cr_X1_8_b1b {n : Nat} (hn : cw_X1_b1b n) : tw_in cT1b (n + 9) 0 := by
  have key : ∀ n, n ∈ ci_X1_b1b → (n + 9 ∈ cT1b.1 ∧ (cT1b.2 (n + 9)).1 = 0) := by decide +kernel
  exact (key n hn)
theorem cr_X1_10_b1b {n : Nat} (hn : cw_X1_b1b n) : tw_in cT1b (n + 11) 0 := by
  have key : ∀ n, n ∈ ci_X1_b1b → (n + 11 ∈ cT1b.1 ∧ (cT1b.2 (n + 11)).1 = 0) := by decide +kernel
  exact (key n hn)
theorem cr_X1_11_b1b {n : Nat} (hn : cw_X1_b1b n) : tw_in cT1b (n + 12) 0 := by
  have key : ∀ n, n ∈ ci_X1_b1b → (n + 12 ∈ cT1b.1 ∧ (cT1b.2 (n + 12)).1 = 0) := by decide +kernel
  exact (key n hn)
theorem cr_X1_12_b1b {n : Nat} (hn : cw_X1_b1b n) : tw_in cT1b (n + 13) 0 := by
  have key : ∀ n, n ∈ ci_X1_b1b → (n + 13 ∈ cT1b.1 ∧ (cT1b.2 (n + 13)).1 = 0) := by decide +kernel
  exact (key n hn)
theorem cr_X1_13_b1b {n : Nat} (hn : cw_X1_b1b n) : tw_in cT1b (n + 14) 0 := by
  have key : ∀ n, n ∈ ci_X1_b1b → (n + 14 ∈ cT1b.1 ∧ (cT1b.2 (n + 14)).1 = 0) := by decide +kernel
  exact (key n hn)
theorem cr_X1_14_b1b {n : Nat} (hn : cw_X1_b1b n) : tw_in cT1b (n + 15) 0 := by
  have key : ∀ n, n ∈ ci_X1_b1b → (n + 15 ∈ cT1b.1 ∧ (cT1b.2 (n + 15)).1 = 0) := by decide +kernel
  exact (key n hn)
theorem cr_X1_15_b1b {n : Nat} (hn : cw_X1_b1b n) : tw_in cT1b (n + 16) 0 := by
  have key : ∀ n, n ∈ ci_X1_b1b → (n + 16 ∈ cT1b.1 ∧ (cT1b.2 (n + 16)).1 = 0) := by decide +kernel
  exact (key n hn)
theorem cr_X1_17_b1b {n : Nat} (hn : cw_X1_b1b n) : tw_in cT1b (n + 18) 0 := by
  have key : ∀ n, n ∈ ci_X1_b1b → (n + 18 ∈ cT1b.1 ∧ (cT1b.2 (n + 18)).1 = 0) := by decide +kernel
  exact (key n hn)
def xA_0_b1b : List Cond := [.methodLink RX1 3 objectInit, .instanceMethod objectInit, .code objectInit ⟨#[0xb1]⟩ 1 none, .initialized RX7, .fieldLink RX1 12 "KnotHouse$Chains" "net" "LKnotHouse$Net;", .fieldLink RX1 18 "KnotHouse$Chains" "loopOf" "[B", .fieldLink RX1 22 "KnotHouse$Chains" "loops" "[I", .fieldLink RX1 26 "KnotHouse$Chains" "gapOf" "[B", .fieldLink RX1 29 "KnotHouse$Chains" "placeOf" "[I", .fieldLink RX1 34 "KnotHouse$Chains" "choose" "[[I", .fieldLink RX1 37 "KnotHouse$Chains" "plus" "[I", .fieldLink RX1 40 "KnotHouse$Chains" "begins" "[I", .fieldLink RX1 43 "KnotHouse$Chains" "sizes" "[I", .fieldLink RX1 46 "KnotHouse$Chains" "work" "[I", .fieldLink RX1 49 "KnotHouse$Chains" "rowFrom" "[I", .fieldLink RX1 52 "KnotHouse$Chains" "rowTo" "[I", .fieldLink RX1 55 "KnotHouse$Chains" "cleared" "[I", .fieldLink RX1 58 "KnotHouse$Chains" "columns" "[I", .fieldLink RX1 61 "KnotHouse$Chains" "values" "[I", .fieldLink RX1 64 "KnotHouse$Chains" "ranks" "[I", .instanceMethod yX7_init, .code yX7_init cX7_init 1 none, .methodLink RX7 3 objectInit, .fieldLink RX7 9 "KnotHouse$Net" "next" "[I", .fieldLink RX7 15 "KnotHouse$Net" "prev" "[I", .fieldLink RX7 18 "KnotHouse$Net" "sign" "[I", .fieldLink RX7 21 "KnotHouse$Net" "order" "[I", .fieldLink RX7 24 "KnotHouse$Net" "component" "[I", .fieldLink RX7 27 "KnotHouse$Net" "part" "[I", .fieldLink RX7 30 "KnotHouse$Net" "queue" "[I", .methodLink RX1 67 yJ6_bitCount_0f7a4, .static yJ6_bitCount_0f7a4, .initialized RJ6, .code yJ6_bitCount_0f7a4 cJ6_bitCount_0f7a4 1 (some .int), .constant RJ6 265 (1431655765), .constant RJ6 266 (858993459), .constant RJ6 267 (252645135), .code yX1_init cX1_init 3 none]
def wC_b1b : List Cond := xA_0_b1b ++ (wsX10)
theorem wC_good_b1b : wC_b1b.all goodWord = true := by decide +kernel
theorem xq_0_b1b : (Cond.methodLink RX1 3 objectInit) ∈ wC_b1b := List.mem_append_left _ (List.mem_of_getElem? (i := 0) rfl)
theorem xq_1_b1b : (Cond.instanceMethod objectInit) ∈ wC_b1b := List.mem_append_left _ (List.mem_of_getElem? (i := 1) rfl)
theorem xq_2_b1b : (Cond.code objectInit ⟨#[0xb1]⟩ 1 none) ∈ wC_b1b := List.mem_append_left _ (List.mem_of_getElem? (i := 2) rfl)
theorem xq_3_b1b : (Cond.initialized RX7) ∈ wC_b1b := List.mem_append_left _ (List.mem_of_getElem? (i := 3) rfl)
theorem xq_4_b1b : (Cond.fieldLink RX1 12 "KnotHouse$Chains" "net" "LKnotHouse$Net;") ∈ wC_b1b := List.mem_append_left _ (List.mem_of_getElem? (i := 4) rfl)
theorem xq_5_b1b : (Cond.fieldLink RX1 18 "KnotHouse$Chains" "loopOf" "[B") ∈ wC_b1b := List.mem_append_left _ (List.mem_of_getElem? (i := 5) rfl)
theorem xq_6_b1b : (Cond.fieldLink RX1 22 "KnotHouse$Chains" "loops" "[I") ∈ wC_b1b := List.mem_append_left _ (List.mem_of_getElem? (i := 6) rfl)
theorem xq_7_b1b : (Cond.fieldLink RX1 26 "KnotHouse$Chains" "gapOf" "[B") ∈ wC_b1b := List.mem_append_left _ (List.mem_of_getElem? (i := 7) rfl)
theorem xq_8_b1b : (Cond.fieldLink RX1 29 "KnotHouse$Chains" "placeOf" "[I") ∈ wC_b1b := List.mem_append_left _ (List.mem_of_getElem? (i := 8) rfl)
theorem xq_9_b1b : (Cond.fieldLink RX1 34 "KnotHouse$Chains" "choose" "[[I") ∈ wC_b1b := List.mem_append_left _ (List.mem_of_getElem? (i := 9) rfl)
theorem xq_10_b1b : (Cond.fieldLink RX1 37 "KnotHouse$Chains" "plus" "[I") ∈ wC_b1b := List.mem_append_left _ (List.mem_of_getElem? (i := 10) rfl)
theorem xq_11_b1b : (Cond.fieldLink RX1 40 "KnotHouse$Chains" "begins" "[I") ∈ wC_b1b := List.mem_append_left _ (List.mem_of_getElem? (i := 11) rfl)
theorem xq_12_b1b : (Cond.fieldLink RX1 43 "KnotHouse$Chains" "sizes" "[I") ∈ wC_b1b := List.mem_append_left _ (List.mem_of_getElem? (i := 12) rfl)
theorem xq_13_b1b : (Cond.fieldLink RX1 46 "KnotHouse$Chains" "work" "[I") ∈ wC_b1b := List.mem_append_left _ (List.mem_of_getElem? (i := 13) rfl)
theorem xq_14_b1b : (Cond.fieldLink RX1 49 "KnotHouse$Chains" "rowFrom" "[I") ∈ wC_b1b := List.mem_append_left _ (List.mem_of_getElem? (i := 14) rfl)
theorem xq_15_b1b : (Cond.fieldLink RX1 52 "KnotHouse$Chains" "rowTo" "[I") ∈ wC_b1b := List.mem_append_left _ (List.mem_of_getElem? (i := 15) rfl)
theorem xq_16_b1b : (Cond.fieldLink RX1 55 "KnotHouse$Chains" "cleared" "[I") ∈ wC_b1b := List.mem_append_left _ (List.mem_of_getElem? (i := 16) rfl)
theorem xq_17_b1b : (Cond.fieldLink RX1 58 "KnotHouse$Chains" "columns" "[I") ∈ wC_b1b := List.mem_append_left _ (List.mem_of_getElem? (i := 17) rfl)
theorem xq_18_b1b : (Cond.fieldLink RX1 61 "KnotHouse$Chains" "values" "[I") ∈ wC_b1b := List.mem_append_left _ (List.mem_of_getElem? (i := 18) rfl)
theorem xq_19_b1b : (Cond.fieldLink RX1 64 "KnotHouse$Chains" "ranks" "[I") ∈ wC_b1b := List.mem_append_left _ (List.mem_of_getElem? (i := 19) rfl)
theorem xq_20_b1b : (Cond.instanceMethod yX7_init) ∈ wC_b1b := List.mem_append_left _ (List.mem_of_getElem? (i := 20) rfl)
theorem xq_21_b1b : (Cond.code yX7_init cX7_init 1 none) ∈ wC_b1b := List.mem_append_left _ (List.mem_of_getElem? (i := 21) rfl)
theorem xq_22_b1b : (Cond.methodLink RX7 3 objectInit) ∈ wC_b1b := List.mem_append_left _ (List.mem_of_getElem? (i := 22) rfl)
theorem xq_23_b1b : (Cond.fieldLink RX7 9 "KnotHouse$Net" "next" "[I") ∈ wC_b1b := List.mem_append_left _ (List.mem_of_getElem? (i := 23) rfl)
theorem xq_24_b1b : (Cond.fieldLink RX7 15 "KnotHouse$Net" "prev" "[I") ∈ wC_b1b := List.mem_append_left _ (List.mem_of_getElem? (i := 24) rfl)
theorem xq_25_b1b : (Cond.fieldLink RX7 18 "KnotHouse$Net" "sign" "[I") ∈ wC_b1b := List.mem_append_left _ (List.mem_of_getElem? (i := 25) rfl)
theorem xq_26_b1b : (Cond.fieldLink RX7 21 "KnotHouse$Net" "order" "[I") ∈ wC_b1b := List.mem_append_left _ (List.mem_of_getElem? (i := 26) rfl)
theorem xq_27_b1b : (Cond.fieldLink RX7 24 "KnotHouse$Net" "component" "[I") ∈ wC_b1b := List.mem_append_left _ (List.mem_of_getElem? (i := 27) rfl)
theorem xq_28_b1b : (Cond.fieldLink RX7 27 "KnotHouse$Net" "part" "[I") ∈ wC_b1b := List.mem_append_left _ (List.mem_of_getElem? (i := 28) rfl)
theorem xq_29_b1b : (Cond.fieldLink RX7 30 "KnotHouse$Net" "queue" "[I") ∈ wC_b1b := List.mem_append_left _ (List.mem_of_getElem? (i := 29) rfl)
theorem xq_30_b1b : (Cond.methodLink RX1 67 yJ6_bitCount_0f7a4) ∈ wC_b1b := List.mem_append_left _ (List.mem_of_getElem? (i := 30) rfl)
theorem xq_31_b1b : (Cond.static yJ6_bitCount_0f7a4) ∈ wC_b1b := List.mem_append_left _ (List.mem_of_getElem? (i := 31) rfl)
theorem xq_32_b1b : (Cond.initialized RJ6) ∈ wC_b1b := List.mem_append_left _ (List.mem_of_getElem? (i := 32) rfl)
theorem xq_33_b1b : (Cond.code yJ6_bitCount_0f7a4 cJ6_bitCount_0f7a4 1 (some .int)) ∈ wC_b1b := List.mem_append_left _ (List.mem_of_getElem? (i := 33) rfl)
theorem xq_34_b1b : (Cond.constant RJ6 265 (1431655765)) ∈ wC_b1b := List.mem_append_left _ (List.mem_of_getElem? (i := 34) rfl)
theorem xq_35_b1b : (Cond.constant RJ6 266 (858993459)) ∈ wC_b1b := List.mem_append_left _ (List.mem_of_getElem? (i := 35) rfl)
theorem xq_36_b1b : (Cond.constant RJ6 267 (252645135)) ∈ wC_b1b := List.mem_append_left _ (List.mem_of_getElem? (i := 36) rfl)
theorem xq_37_b1b : (Cond.code yX1_init cX1_init 3 none) ∈ wC_b1b := List.mem_append_left _ (List.mem_of_getElem? (i := 37) rfl)
theorem wC_X1_b1b : ∀ w ∈ u_ws RX1 TX1 20, w ∈ wC_b1b := fun _ h => List.mem_append_right _ (h)
def cw_pre_b1b (D : va_G) (q : Nat → ClassId) (u : Nat → Nat) (z : ow_MS) (U : State) : Prop := va_P D vwCl (uw cT1b q u z) U.heap ∧ va_K D vwCl (uw_T q RX7) U
section CRULES
variable {p : Program} {l : Launch} {e : Env} {R : Room} {s : State} {m : MethodId} {args : Array Value} {below : List Frame} {meth : Method} {c : Code} {H : Heap} {locs : List Loc} {cells slots : Nat} {Q : State → Prop}
variable {cc : ByteArray} {pc : Nat} {ls : Array Slot} {rest : List Value} {D : va_G} {A : Nat → Prop} {H0 : Heap} {q : Nat → ClassId} {u : Nat → Nat} {z : ow_MS} {O : Type} {out : O}

theorem cw_preS_b1b (hK : va_K D vwCl (uw_T q RX7) s) (hM : uw_M D vwCl cT1b q A H0 u z H locs) {As : List Value} : PreS s H (va_Pc As (cw_pre_b1b D q u z)) As := by
  refine ⟨fun a U g mk q => by obtain ⟨q0, qP, qK⟩ := q; exact ⟨q0, qP, va_K.moved (u := U) (U := U.calling g mk a) (Vm.Alike.refl U.vm) qK⟩, fun U hU hW => ⟨rfl, by rw [hU]; exact hM.1, va_K.moved hW.alike hK⟩⟩
theorem cw_preV_b1b (hK : va_K D vwCl (uw_T q RX7) s) (hM : uw_M D vwCl cT1b q A H0 u z H locs) {h ci : Nat} {fs : List (Nat × Nat)} (hh : tw_ob cT1b h ci fs) {r : vw_C} (hc : vwCl[ci]? = some r) {As : List Value} : PreV s H r.1 (u h) (va_Pc (.ref (u h) :: As) (cw_pre_b1b D q u z)) As := by
  obtain ⟨k, hk, _⟩ := uw_at cT1b_ok hh.1
  have h1 := hk q u z
  rw [uw_c9 q u z hh] at h1
  exact ⟨(cw_preS_b1b hK hM).1, va_recv hK hM.1 hc h1, (cw_preS_b1b hK hM).2⟩

theorem vgX1_34_b1b (hx : p.tables.exec = Jvm.exec) (hb : c.code = cc) (hT : ∀ w ∈ wC_b1b, w.before args s = true) (hown : s.vm.findClass RX1 = some m.cls) (hK : va_K D vwCl (uw_T q RX7) s) (hM : uw_M D vwCl cT1b q A H0 u z H locs) {n : Nat} (hn : cw_X1_b1b n) (hdg : decode cc pc = .ok (.getfield 34, 3)) (kk : W p l e R s m args below meth c H locs cells slots Q (F0 m (pc + 3) ls (.ref (u (n + 6)) :: rest))) : W p l e R s m args below meth c H locs cells slots Q (F0 m pc ls (.ref (u n) :: rest)) := uw_getR (C := RX1) (T := TX1) (N := 20) cT1b_ok hx hb hT wC_X1_b1b hown hK hM (co_X1_b1b hn) rfl 5 (by decide) (hT _ xq_9_b1b) (fun _ h9 => h9) rfl hdg kk
theorem vgX1_29_b1b (hx : p.tables.exec = Jvm.exec) (hb : c.code = cc) (hT : ∀ w ∈ wC_b1b, w.before args s = true) (hown : s.vm.findClass RX1 = some m.cls) (hK : va_K D vwCl (uw_T q RX7) s) (hM : uw_M D vwCl cT1b q A H0 u z H locs) {n : Nat} (hn : cw_X1_b1b n) (hdg : decode cc pc = .ok (.getfield 29, 3)) (kk : W p l e R s m args below meth c H locs cells slots Q (F0 m (pc + 3) ls (.ref (u (n + 5)) :: rest))) : W p l e R s m args below meth c H locs cells slots Q (F0 m pc ls (.ref (u n) :: rest)) := uw_getR (C := RX1) (T := TX1) (N := 20) cT1b_ok hx hb hT wC_X1_b1b hown hK hM (co_X1_b1b hn) rfl 4 (by decide) (hT _ xq_8_b1b) (fun _ h9 => h9) rfl hdg kk
theorem ca_X1_5_b1b (hx : p.tables.exec = Jvm.exec) (hb : c.code = cc) (hK : va_K D vwCl (uw_T q RX7) s) (hM : uw_M D vwCl cT1b q A H0 u z H locs) {n : Nat} (hn : cw_X1_b1b n) {i : Int32} {K : Nat → Option O} (hq : crX 11 i K = some out) (hdg : decode cc pc = .ok (.aaload, 1)) (kk : ∀ j, j < 11 → K j = some out → W p l e R s m args below meth c H locs cells slots Q (F0 m (pc + 1) ls (.ref (u (n + 2001 + j)) :: rest))) : W p l e R s m args below meth c H locs cells slots Q (F0 m pc ls (.int i :: .ref (u (n + 6)) :: rest)) := by
  obtain ⟨h1, h2⟩ := cn_X1_5_b1b hn
  refine uw_aaldI cT1b_ok hx hb hK hM (cr_X1_5_b1b hn) (K := K) (out := out) (by rw [h1]; exact hq) (fun j hj => ⟨_, h2 j (by rw [← h1]; exact hj)⟩) hdg (fun j g hj hg hq => ?_)
  rw [h1] at hj
  rw [h2 j hj] at hg
  obtain rfl : n + 2001 + j = g := congrArg Prod.snd (Option.some.inj hg)
  exact kk j hj hq
theorem cw_iret_b1b {x r : Int32} {z1 : ow_MS} (hx : p.tables.exec = Jvm.exec) (hb : c.code = cc) (hr : meth.sig.returnType = some .int) (hlocks : meth.locks = false) (hM : uw_M D vwCl cT1b q (tw_A cT1b u) s.heap u z H locs) (hq : some (x, z) = some (r, z1)) (hQ : Q = MQ below (va_Qi (fun x (_ : Unit) => x = r) (fun _ t => va_P D vwCl (uw cT1b q u z1) t.heap) (tw_A cT1b u)) args s 0 0 (tw_A cT1b u)) (hdg : decode cc pc = .ok (.ireturn, 1)) : W p l e R s m args below meth c H locs 0 0 Q (F0 m pc ls [.int x]) := by
  obtain ⟨rfl, rfl⟩ := Prod.mk.inj (Option.some.inj hq)
  rw [hQ]
  exact W.iret (v := x) hx hb hr (fun t ht hW => ⟨⟨x, (), rfl, rfl, by show va_P D vwCl (uw cT1b q u z) t.heap; rw [ht]; exact hM.1⟩, hM.2.F ht⟩) hM.2.2.2 hdg hlocks
theorem cw_zret_b1b {x r : Int32} {z1 : ow_MS} (hx : p.tables.exec = Jvm.exec) (hb : c.code = cc) (hr : meth.sig.returnType = some .boolean) (hlocks : meth.locks = false) (hM : uw_M D vwCl cT1b q (tw_A cT1b u) s.heap u z H locs) (hz : x = 0 ∨ x = 1) (hq : some (x, z) = some (r, z1)) (hQ : Q = MQ below (va_Qi (fun x (_ : Unit) => x = r) (fun _ t => va_P D vwCl (uw cT1b q u z1) t.heap) (tw_A cT1b u)) args s 0 0 (tw_A cT1b u)) (hdg : decode cc pc = .ok (.ireturn, 1)) : W p l e R s m args below meth c H locs 0 0 Q (F0 m pc ls [.int x]) := by
  obtain ⟨rfl, rfl⟩ := Prod.mk.inj (Option.some.inj hq)
  rw [hQ]
  exact W.zret (v := x) (ty := .boolean) hx hb hr (tw_isZ hz) (fun t ht hW => ⟨⟨x, (), rfl, rfl, by show va_P D vwCl (uw cT1b q u z) t.heap; rw [ht]; exact hM.1⟩, hM.2.F ht⟩) hM.2.2.2 hdg hlocks
theorem cw_lret_b1b {x r : Int64} {z1 : ow_MS} (hx : p.tables.exec = Jvm.exec) (hb : c.code = cc) (hr : meth.sig.returnType = some .long) (hlocks : meth.locks = false) (hM : uw_M D vwCl cT1b q (tw_A cT1b u) s.heap u z H locs) (hq : some (x, z) = some (r, z1)) (hQ : Q = MQ below (va_Ql (fun x (_ : Unit) => x = r) (fun _ t => va_P D vwCl (uw cT1b q u z1) t.heap) (tw_A cT1b u)) args s 0 0 (tw_A cT1b u)) (hdg : decode cc pc = .ok (.lreturn, 1)) : W p l e R s m args below meth c H locs 0 0 Q (F0 m pc ls [.long x]) := by
  obtain ⟨rfl, rfl⟩ := Prod.mk.inj (Option.some.inj hq)
  rw [hQ]
  exact W.lret (v := x) hx hb hr (fun t ht hW => ⟨⟨x, (), rfl, rfl, by show va_P D vwCl (uw cT1b q u z) t.heap; rw [ht]; exact hM.1⟩, hM.2.F ht⟩) hM.2.2.2 hdg hlocks
theorem cw_vret_b1b {z1 : ow_MS} (hx : p.tables.exec = Jvm.exec) (hb : c.code = cc) (hr : meth.sig.returnType = none) (hlocks : meth.locks = false) (hM : uw_M D vwCl cT1b q (tw_A cT1b u) s.heap u z H locs) (hq : some z = some z1) (hQ : Q = MQ below (va_Qv (fun (_ : Unit) => True) (fun _ t => va_P D vwCl (uw cT1b q u z1) t.heap) (tw_A cT1b u)) args s 0 0 (tw_A cT1b u)) (hdg : decode cc pc = .ok (.return_, 1)) : W p l e R s m args below meth c H locs 0 0 Q (F0 m pc ls []) := by
  obtain rfl := Option.some.inj hq
  rw [hQ]
  exact W.vret hx hb hr (fun t ht hW => ⟨⟨(), rfl, trivial, by show va_P D vwCl (uw cT1b q u z) t.heap; rw [ht]; exact hM.1⟩, hM.2.F ht⟩) hM.2.2.2 hdg hlocks
end CRULES
theorem tw_no_b1b {O : Type} {out : O} {P : Prop} (h : (none : Option O) = some out) : P := nomatch h
section CPURE
variable {p : Program} {l : Launch} {e : Env} {R : Room} {s : State} {m : MethodId} {args : Array Value} {below : List Frame} {meth : Method} {c : Code} {H : Heap} {locs : List Loc} {cells slots : Nat} {Q : State → Prop}
variable {cc : ByteArray} {pc : Nat} {ls : Array Slot} {rest : List Value} {D : va_G} {A : Nat → Prop} {H0 : Heap} {q : Nat → ClassId} {u : Nat → Nat} {z : ow_MS}
theorem cw_pure_b1b {a : Array Value} {st0 : List Value} {y : Int32} (hM : uw_M D vwCl cT1b q A H0 u z H locs) (hr : va_Run p l e R s m args below meth c H locs cells slots 0 0 (F0 m pc ls st0) rest (va_Qi (fun r (_ : Unit) => r = y) (fun _ _ => True) (fun _ => False) a) (fun _ => False)) (kk : ∀ H1 locs1, uw_M D vwCl cT1b q A H0 u z H1 locs1 → W p l e R s m args below meth c H1 locs1 cells slots Q (F0 m (pc + 3) ls (.int y :: rest))) : W p l e R s m args below meth c H locs cells slots Q (F0 m pc ls st0) := by
  refine va_calli hr hM.2 (fun _ _ h => h.elim) (fun _ h => h.elim) (fun r1 _ t H1 locs1 ht _ hw hB _ hk1 hS => ?_)
  rw [hw]
  exact kk H1 locs1 ⟨hM.1.kept (fun k9 x9 h9 => hk1 x9.1 ((hM.1 k9 x9 h9).lt) id), hS⟩
theorem uw_alen4_b1b {cl : List vw_C} {X : ow_Tb} {C5 : String} {h : Nat} (hO : uw_ok X) (hx : p.tables.exec = Jvm.exec) (hb : c.code = cc) (hK : va_K D cl (uw_T q C5) s) (hM : uw_M D cl X q A H0 u z H locs) (hh : tw_in X h 4) (hdg : decode cc pc = .ok (.arraylength, 1)) (kk : W p l e R s m args below meth c H locs cells slots Q (F0 m (pc + 1) ls (.int (Int32.ofNat (X.2 h).2.1) :: rest))) : W p l e R s m args below meth c H locs cells slots Q (F0 m pc ls (.ref (u h) :: rest)) := by
  obtain ⟨k, hk, _⟩ := uw_at hO hh.1
  have h1 := hk q u z
  rw [uw_c4 q u z hh] at h1
  exact va_alen hx hb hK hM.1 k 4 h1 rfl rfl hdg kk
end CPURE
theorem cw_gbc_b1b {c0 : Cond} {own : String} {idx : Nat} (h : Cond.methodLink own idx yJ6_bitCount_0f7a4 ∈ wC_b1b) : GoodIn (c0 :: wC_b1b) (va_wsS own idx yJ6_bitCount_0f7a4 wsJ6_bitCount_0f7a4) := by
  have g : ∀ w ∈ wC_b1b, w ∈ c0 :: wC_b1b ∧ ((w.onTables && w.keeps) = true ∨ ∃ ty, w = .arrayClass ty) := fun w h => ⟨List.mem_cons_of_mem _ h, good_of_word (List.all_eq_true.mp wC_good_b1b w h)⟩
  intro w hw
  unfold va_wsS wsJ6_bitCount_0f7a4 at hw
  simp only [List.mem_append, List.mem_cons, List.not_mem_nil, or_false, List.append_nil] at hw
  rcases hw with (rfl | rfl | rfl) | rfl | rfl | rfl | rfl
  · exact g _ h
  · exact g _ xq_31_b1b
  · exact g _ xq_32_b1b
  · exact g _ xq_33_b1b
  · exact g _ xq_34_b1b
  · exact g _ xq_35_b1b
  · exact g _ xq_36_b1b
def cm_X1j_0_b1b (K : Nat) (go : Nat → Int32 → Nat → Nat → ow_MS → Option ow_MS) (x2 : Int32) (r0 : Nat) (r1 : Nat) (z : ow_MS) : Option ow_MS :=
 go 1 0 r0 r1 z
def cm_X1j_1_b1b (K : Nat) (go : Nat → Int32 → Nat → Nat → ow_MS → Option ow_MS) (x2 : Int32) (r0 : Nat) (r1 : Nat) (z : ow_MS) : Option ow_MS :=
 (if (Int32.ofNat (uw_len cT1b z (r0 + 5))) ≤ x2 then some z
 else crI cT1b z r1 (ow_bc x2) fun v2 => ctI cT1b z (r0 + 5) x2 v2 fun z3 => crI cT1b z3 r1 (ow_bc x2) fun v5 => ctI cT1b z3 r1 (ow_bc x2) (v5 + 1) fun z6 => go 1 (x2 + 1) r0 r1 z6)
def cb_X1j_b1b (K : Nat) (go : Nat → Int32 → Nat → Nat → ow_MS → Option ow_MS) (L : Nat) (x2 : Int32) (r0 : Nat) (r1 : Nat) (z : ow_MS) : Option ow_MS := match L with
  | 0 => cm_X1j_0_b1b K go x2 r0 r1 z
  | 1 => cm_X1j_1_b1b K go x2 r0 r1 z
  | _ => none
def c_X1j_b1b (K : Nat) : Nat → Nat → Int32 → Nat → Nat → ow_MS → Option ow_MS
  | 0 => fun _ _ _ _ _ => none
  | k + 1 => cb_X1j_b1b K (c_X1j_b1b K k)
def ce_X1j_b1b (K : Nat) (r0 : Nat) (r1 : Nat) (z : ow_MS) : Option ow_MS := c_X1j_b1b K K 0 0 r0 r1 z
set_option maxHeartbeats 4000000 in
set_option maxRecDepth 100000 in
theorem kb_X1j_b1b {p : Program} {l : Launch} {e : Env} {s : State} {m : MethodId} {args : Array Value} {below : List Frame} {meth : Method} {c : Code} {QQ : State → Prop} {A : Nat → Prop} {D : va_G} {q : Nat → ClassId} {u : Nat → Nat} {c0t : Cond}  (hU : uw_inj cT1b u A) (hx : p.tables.exec = Jvm.exec) (hb : c.code = cX1_init) (hml : c.maxLocals = 3) (hown : s.vm.findClass RX1 = some m.cls) (hts : ∀ w ∈ c0t :: wC_b1b, w.before args s = true) (hK : va_K D vwCl (uw_T q RX7) s) (K : Nat) (r0 : Nat) (r1 : Nat) (hr0 : cw_X1_b1b r0) (hr1 : tw_in cT1b r1 0) (z z1 : ow_MS) (hq : ce_X1j_b1b K r0 r1 z = some z1) (H : Heap) (locs : List Loc) (ls : Array Slot) (hM : uw_M D vwCl cT1b q A s.heap u z H locs) (hl : lv_has ls 3 [(0, .ref (u r0)), (1, .ref (u r1))]) (kk : ∀ (H : Heap) (locs : List Loc) (ls : Array Slot), uw_M D vwCl cT1b q A s.heap u z1 H locs → lv_has ls 3 [(0, .ref (u r0)), (1, .ref (u r1))] → W p l e RI1 s m args below meth c H locs 35 51832 QQ (F0 m 263 ls [])) : W p l e RI1 s m args below meth c H locs 35 51832 QQ (F0 m 224 ls []) := by
  have hT : ∀ w ∈ wC_b1b, w.before args s = true := fun w h => hts w (List.mem_cons_of_mem _ h)
  have key : ∀ k : Nat, (∀ (x2 : Int32) (r0 : Nat) (r1 : Nat) (z : ow_MS) (H : Heap) (locs : List Loc) (ls : Array Slot), cw_X1_b1b r0 → tw_in cT1b r1 0 → (∀ (H : Heap) (locs : List Loc) (ls : Array Slot), uw_M D vwCl cT1b q A s.heap u z1 H locs → lv_has ls 3 [(0, .ref (u r0)), (1, .ref (u r1))] → W p l e RI1 s m args below meth c H locs 35 51832 QQ (F0 m 263 ls [])) → uw_M D vwCl cT1b q A s.heap u z H locs → lv_has ls 3 [(0, .ref (u r0)), (1, .ref (u r1))] → c_X1j_b1b K k 0 x2 r0 r1 z = some z1 → W p l e RI1 s m args below meth c H locs 35 51832 QQ (F0 m 224 ls [])) ∧ (∀ (x2 : Int32) (r0 : Nat) (r1 : Nat) (z : ow_MS) (H : Heap) (locs : List Loc) (ls : Array Slot), cw_X1_b1b r0 → tw_in cT1b r1 0 → (∀ (H : Heap) (locs : List Loc) (ls : Array Slot), uw_M D vwCl cT1b q A s.heap u z1 H locs → lv_has ls 3 [(0, .ref (u r0)), (1, .ref (u r1))] → W p l e RI1 s m args below meth c H locs 35 51832 QQ (F0 m 263 ls [])) → uw_M D vwCl cT1b q A s.heap u z H locs → lv_has ls 3 [(0, .ref (u r0)), (1, .ref (u r1)), (2, .int x2)] → c_X1j_b1b K k 1 x2 r0 r1 z = some z1 → W p l e RI1 s m args below meth c H locs 35 51832 QQ (F0 m 226 ls [])) := by
    intro k
    induction k with
    | zero => exact ⟨fun _ _ _ _ _ _ _ _ _ _ _ _ hq => tw_no_b1b hq, fun _ _ _ _ _ _ _ _ _ _ _ _ hq => tw_no_b1b hq⟩
    | succ k ih =>
      obtain ⟨ih_0, ih_1⟩ := ih
      refine ⟨?_, ?_⟩
      · intro x2 r0 r1 z H locs ls hr0 hr1 kk hM hl hq
        have hq : cm_X1j_0_b1b K (c_X1j_b1b K k) x2 r0 r1 z = some z1 := hq
        unfold cm_X1j_0_b1b at hq
        refine lv_iconst (v := 0) hx hb dX1_init_224 (by decide) ?_
        refine lv_istore_n (lv' := [(2, .int 0), (0, .ref (u r0)), (1, .ref (u r1))]) hx hb dX1_init_225 rfl hl (by decide) rfl (fun ls hl => ?_)
        exact ih_1 0 r0 r1 z H locs ls hr0 hr1 kk hM (lv_sub hl [1, 2, 0] rfl) hq
      · intro x2 r0 r1 z H locs ls hr0 hr1 kk hM hl hq
        have hq : cm_X1j_1_b1b K (c_X1j_b1b K k) x2 r0 r1 z = some z1 := hq
        unfold cm_X1j_1_b1b at hq
        refine lv_iload_n hx hb dX1_init_226 rfl (lv_at hl 2 rfl) ?_
        refine lv_aload_n hx hb dX1_init_227 rfl (lv_at hl 0 rfl) ?_
        refine vgX1_29_b1b hx hb hT hown hK hM hr0 dX1_init_228 ?_
        refine uw_alen cT1b_ok hx hb hK hM (cr_X1_4_b1b hr0) dX1_init_231 ?_
        refine lv_icmp_ge (tgt := 263) hx hb dX1_init_232 (by decide) (fun hc => ?_) (fun hc => ?_)
        · have hq := tw_it hq hc
          rw [Option.some.inj hq] at hM
          exact kk H locs ls hM (lv_sub hl [0, 1] rfl)
        · have hq := tw_if hq hc
          refine lv_aload_n hx hb dX1_init_235 rfl (lv_at hl 0 rfl) ?_
          refine vgX1_29_b1b hx hb hT hown hK hM hr0 dX1_init_236 ?_
          refine lv_iload_n hx hb dX1_init_239 rfl (lv_at hl 2 rfl) ?_
          refine lv_aload_n hx hb dX1_init_240 rfl (lv_at hl 1 rfl) ?_
          refine lv_iload_n hx hb dX1_init_241 rfl (lv_at hl 2 rfl) ?_
          refine cw_pure_b1b hM (va_runS (As := [.int x2]) (rest := [.ref (u r1), .int x2, .ref (u (r0 + 5))]) ⟨hx, hb, hml, hown, hts⟩ (k_J6_bitCount_0f7a4 l x2) (va_cwS 1 hts (cw_gbc_b1b xq_30_b1b) rfl rfl rfl (by decide +kernel) ⟨(Nat.le_of_ble_eq_true rfl), (Nat.le_of_ble_eq_true rfl)⟩) ⟨fun a U g mk q => q, fun U hU hW => ⟨rfl, trivial⟩⟩ rfl rfl hl.1 rfl (lv_room (Nat.le_of_ble_eq_true rfl)) dX1_init_242 ⟨(Nat.le_of_ble_eq_true rfl), (Nat.le_of_ble_eq_true rfl)⟩) (fun H locs hM => ?_)
          refine uw_iald cT1b_ok hx hb hK hM hr1 hq dX1_init_245 (fun v2 hq => ?_)
          refine uw_iast cT1b_ok hU hx hb hK hM (cr_X1_4_b1b hr0) hq dX1_init_246 (fun z3 H locs hM hq => ?_)
          refine lv_aload_n hx hb dX1_init_247 rfl (lv_at hl 1 rfl) ?_
          refine lv_iload_n hx hb dX1_init_248 rfl (lv_at hl 2 rfl) ?_
          refine cw_pure_b1b hM (va_runS (As := [.int x2]) (rest := [.ref (u r1)]) ⟨hx, hb, hml, hown, hts⟩ (k_J6_bitCount_0f7a4 l x2) (va_cwS 1 hts (cw_gbc_b1b xq_30_b1b) rfl rfl rfl (by decide +kernel) ⟨(Nat.le_of_ble_eq_true rfl), (Nat.le_of_ble_eq_true rfl)⟩) ⟨fun a U g mk q => q, fun U hU hW => ⟨rfl, trivial⟩⟩ rfl rfl hl.1 rfl (lv_room (Nat.le_of_ble_eq_true rfl)) dX1_init_249 ⟨(Nat.le_of_ble_eq_true rfl), (Nat.le_of_ble_eq_true rfl)⟩) (fun H locs hM => ?_)
          refine lv_dup2_11 hx hb dX1_init_252 rfl rfl ?_
          refine uw_iald cT1b_ok hx hb hK hM hr1 hq dX1_init_253 (fun v5 hq => ?_)
          refine lv_iconst (v := 1) hx hb dX1_init_254 (by decide) ?_
          refine lv_iadd hx hb dX1_init_255 ?_
          refine uw_iast cT1b_ok hU hx hb hK hM hr1 hq dX1_init_256 (fun z6 H locs hM hq => ?_)
          refine lv_iinc (v := (x2 + 1)) (lv' := [(2, .int (x2 + 1)), (0, .ref (u r0)), (1, .ref (u r1))]) hx hb dX1_init_257 hl (k := 2) rfl rfl (by decide) rfl (fun ls hl => ?_)
          refine lv_goto (tgt := 226) hx hb dX1_init_260 (by decide) ?_
          exact ih_1 (x2 + 1) r0 r1 z6 H locs ls hr0 hr1 kk hM (lv_sub hl [1, 2, 0] rfl) hq
  exact (key K).1 0 r0 r1 z H locs ls hr0 hr1 kk hM hl hq
