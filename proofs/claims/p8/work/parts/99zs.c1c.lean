def ci_X1_b1b : List Nat := [43000]
def cw_X1_b1b (n : Nat) : Prop := n ∈ ci_X1_b1b
theorem co_X1_b1b {n : Nat} (hn : cw_X1_b1b n) : tw_ob cT1b n 4 (cX_o1 n) := by
  have key : ∀ n, n ∈ ci_X1_b1b → (n ∈ cT1b.1 ∧ cT1b.2 n = (9, 4, cX_o1 n)) := by decide +kernel
  exact (key n hn)
theorem cr_X1_4_b1b {n : Nat} (hn : cw_X1_b1b n) : tw_in cT1b (n + 5) 0 := by
  have key : ∀ n, n ∈ ci_X1_b1b → (n + 5 ∈ cT1b.1 ∧ (cT1b.2 (n + 5)).1 = 0) := by decide +kernel
  exact (key n hn)
def xA_0_b1b : List Cond := [.methodLink RX1 3 objectInit, .instanceMethod objectInit, .code objectInit ⟨#[0xb1]⟩ 1 none, .initialized RX7, .fieldLink RX1 12 "KnotHouse$Chains" "net" "LKnotHouse$Net;", .fieldLink RX1 18 "KnotHouse$Chains" "loopOf" "[B", .fieldLink RX1 22 "KnotHouse$Chains" "loops" "[I", .fieldLink RX1 26 "KnotHouse$Chains" "gapOf" "[B", .fieldLink RX1 29 "KnotHouse$Chains" "placeOf" "[I", .fieldLink RX1 34 "KnotHouse$Chains" "choose" "[[I", .fieldLink RX1 37 "KnotHouse$Chains" "plus" "[I", .fieldLink RX1 40 "KnotHouse$Chains" "begins" "[I", .fieldLink RX1 43 "KnotHouse$Chains" "sizes" "[I", .fieldLink RX1 46 "KnotHouse$Chains" "work" "[I", .fieldLink RX1 49 "KnotHouse$Chains" "rowFrom" "[I", .fieldLink RX1 52 "KnotHouse$Chains" "rowTo" "[I", .fieldLink RX1 55 "KnotHouse$Chains" "cleared" "[I", .fieldLink RX1 58 "KnotHouse$Chains" "columns" "[I", .fieldLink RX1 61 "KnotHouse$Chains" "values" "[I", .fieldLink RX1 64 "KnotHouse$Chains" "ranks" "[I", .instanceMethod yX7_init, .code yX7_init cX7_init 1 none, .methodLink RX7 3 objectInit, .fieldLink RX7 9 "KnotHouse$Net" "next" "[I", .fieldLink RX7 15 "KnotHouse$Net" "prev" "[I", .fieldLink RX7 18 "KnotHouse$Net" "sign" "[I", .fieldLink RX7 21 "KnotHouse$Net" "order" "[I", .fieldLink RX7 24 "KnotHouse$Net" "component" "[I", .fieldLink RX7 27 "KnotHouse$Net" "part" "[I", .fieldLink RX7 30 "KnotHouse$Net" "queue" "[I", .methodLink RX1 67 yJ6_bitCount_0f7a4, .static yJ6_bitCount_0f7a4, .initialized RJ6, .code yJ6_bitCount_0f7a4 cJ6_bitCount_0f7a4 1 (some .int), .constant RJ6 265 (1431655765), .constant RJ6 266 (858993459), .constant RJ6 267 (252645135), .code yX1_init cX1_init 3 none]
def wC_b1b : List Cond := xA_0_b1b ++ (wsX10)
theorem wC_good_b1b : wC_b1b.all goodWord = true := by decide +kernel
theorem xq_8_b1b : (Cond.fieldLink RX1 29 "KnotHouse$Chains" "placeOf" "[I") ∈ wC_b1b := List.mem_append_left _ (List.mem_of_getElem? (i := 8) rfl)
theorem xq_30_b1b : (Cond.methodLink RX1 67 yJ6_bitCount_0f7a4) ∈ wC_b1b := List.mem_append_left _ (List.mem_of_getElem? (i := 30) rfl)
theorem xq_31_b1b : (Cond.static yJ6_bitCount_0f7a4) ∈ wC_b1b := List.mem_append_left _ (List.mem_of_getElem? (i := 31) rfl)
theorem xq_32_b1b : (Cond.initialized RJ6) ∈ wC_b1b := List.mem_append_left _ (List.mem_of_getElem? (i := 32) rfl)
theorem xq_33_b1b : (Cond.code yJ6_bitCount_0f7a4 cJ6_bitCount_0f7a4 1 (some .int)) ∈ wC_b1b := List.mem_append_left _ (List.mem_of_getElem? (i := 33) rfl)
theorem xq_34_b1b : (Cond.constant RJ6 265 (1431655765)) ∈ wC_b1b := List.mem_append_left _ (List.mem_of_getElem? (i := 34) rfl)
theorem xq_35_b1b : (Cond.constant RJ6 266 (858993459)) ∈ wC_b1b := List.mem_append_left _ (List.mem_of_getElem? (i := 35) rfl)
theorem xq_36_b1b : (Cond.constant RJ6 267 (252645135)) ∈ wC_b1b := List.mem_append_left _ (List.mem_of_getElem? (i := 36) rfl)
theorem wC_X1_b1b : ∀ w ∈ u_ws RX1 TX1 20, w ∈ wC_b1b := fun _ h => List.mem_append_right _ (h)
section CRULES
variable {p : Program} {l : Launch} {e : Env} {R : Room} {s : State} {m : MethodId} {args : Array Value} {below : List Frame} {meth : Method} {c : Code} {H : Heap} {locs : List Loc} {cells slots : Nat} {Q : State → Prop}
variable {cc : ByteArray} {pc : Nat} {ls : Array Slot} {rest : List Value} {D : va_G} {A : Nat → Prop} {H0 : Heap} {q : Nat → ClassId} {u : Nat → Nat} {z : ow_MS} {O : Type} {out : O}

theorem vgX1_29_b1b (hx : p.tables.exec = Jvm.exec) (hb : c.code = cc) (hT : ∀ w ∈ wC_b1b, w.before args s = true) (hown : s.vm.findClass RX1 = some m.cls) (hK : va_K D vwCl (uw_T q RX7) s) (hM : uw_M D vwCl cT1b q A H0 u z H locs) {n : Nat} (hn : cw_X1_b1b n) (hdg : decode cc pc = .ok (.getfield 29, 3)) (kk : W p l e R s m args below meth c H locs cells slots Q (F0 m (pc + 3) ls (.ref (u (n + 5)) :: rest))) : W p l e R s m args below meth c H locs cells slots Q (F0 m pc ls (.ref (u n) :: rest)) := uw_getR (C := RX1) (T := TX1) (N := 20) cT1b_ok hx hb hT wC_X1_b1b hown hK hM (co_X1_b1b hn) rfl 4 (by decide) (hT _ xq_8_b1b) (fun _ h9 => h9) rfl hdg kk
end CRULES
theorem tw_no_b1b {O : Type} {out : O} {P : Prop} (h : (none : Option O) = some out) : P := nomatch h
section CPURE
variable {p : Program} {l : Launch} {e : Env} {R : Room} {s : State} {m : MethodId} {args : Array Value} {below : List Frame} {meth : Method} {c : Code} {H : Heap} {locs : List Loc} {cells slots : Nat} {Q : State → Prop}
variable {cc : ByteArray} {pc : Nat} {ls : Array Slot} {rest : List Value} {D : va_G} {A : Nat → Prop} {H0 : Heap} {q : Nat → ClassId} {u : Nat → Nat} {z : ow_MS}
theorem cw_pure_b1b {a : Array Value} {st0 : List Value} {y : Int32} (hM : uw_M D vwCl cT1b q A H0 u z H locs) (hr : va_Run p l e R s m args below meth c H locs cells slots 0 0 (F0 m pc ls st0) rest (va_Qi (fun r (_ : Unit) => r = y) (fun _ _ => True) (fun _ => False) a) (fun _ => False)) (kk : ∀ H1 locs1, uw_M D vwCl cT1b q A H0 u z H1 locs1 → W p l e R s m args below meth c H1 locs1 cells slots Q (F0 m (pc + 3) ls (.int y :: rest))) : W p l e R s m args below meth c H locs cells slots Q (F0 m pc ls st0) := by
  refine va_calli hr hM.2 (fun _ _ h => h.elim) (fun _ h => h.elim) (fun r1 _ t H1 locs1 ht _ hw hB _ hk1 hS => ?_)
  rw [hw]
  exact kk H1 locs1 ⟨hM.1.kept (fun k9 x9 h9 => hk1 x9.1 ((hM.1 k9 x9 h9).lt) id), hS⟩
end CPURE
theorem cw_gbc_b1b {c0 : Cond} {own : String} {idx : Nat} (h : Cond.methodLink own idx yJ6_bitCount_0f7a4 ∈ wC_b1b) : GoodIn (c0 :: wC_b1b) (va_wsS own idx yJ6_bitCount_0f7a4 wsJ6_bitCount_0f7a4) := by
  have g : ∀ w ∈ wC_b1b, w ∈ c0 :: wC_b1b ∧ ((w.onTables && w.keeps) = true ∨ ∃ ty, w = .arrayClass ty) := fun w h => ⟨List.mem_cons_of_mem _ h, good_of_word (List.all_eq_true.mp wC_good_b1b w h)⟩
  intro w hw
  unfold va_wsS wsJ6_bitCount_0f7a4 at hw
  simp only [List.mem_append, List.mem_cons, List.not_mem_nil, or_false, List.append_nil] at hw
  rcases hw with (rfl | rfl | rfl) | rfl | rfl | rfl | rfl
  · exact g _ h
  · exact g _ xq_31_b1b
  · exact g _ xq_32_b1b
  · exact g _ xq_33_b1b
  · exact g _ xq_34_b1b
  · exact g _ xq_35_b1b
  · exact g _ xq_36_b1b
def cm_X1j_0_b1b (K : Nat) (go : Nat → Int32 → Nat → Nat → ow_MS → Option ow_MS) (x2 : Int32) (r0 : Nat) (r1 : Nat) (z : ow_MS) : Option ow_MS :=
 go 1 0 r0 r1 z
def cm_X1j_1_b1b (K : Nat) (go : Nat → Int32 → Nat → Nat → ow_MS → Option ow_MS) (x2 : Int32) (r0 : Nat) (r1 : Nat) (z : ow_MS) : Option ow_MS :=
 (if (Int32.ofNat (uw_len cT1b z (r0 + 5))) ≤ x2 then some z
 else crI cT1b z r1 (ow_bc x2) fun v2 => ctI cT1b z (r0 + 5) x2 v2 fun z3 => crI cT1b z3 r1 (ow_bc x2) fun v5 => ctI cT1b z3 r1 (ow_bc x2) (v5 + 1) fun z6 => go 1 (x2 + 1) r0 r1 z6)
def cb_X1j_b1b (K : Nat) (go : Nat → Int32 → Nat → Nat → ow_MS → Option ow_MS) (L : Nat) (x2 : Int32) (r0 : Nat) (r1 : Nat) (z : ow_MS) : Option ow_MS := match L with
  | 0 => cm_X1j_0_b1b K go x2 r0 r1 z
  | 1 => cm_X1j_1_b1b K go x2 r0 r1 z
  | _ => none
def c_X1j_b1b (K : Nat) : Nat → Nat → Int32 → Nat → Nat → ow_MS → Option ow_MS
  | 0 => fun _ _ _ _ _ => none
  | k + 1 => cb_X1j_b1b K (c_X1j_b1b K k)
def ce_X1j_b1b (K : Nat) (r0 : Nat) (r1 : Nat) (z : ow_MS) : Option ow_MS := c_X1j_b1b K K 0 0 r0 r1 z
set_option maxHeartbeats 4000000 in
set_option maxRecDepth 100000 in
theorem kb_X1j_b1b {p : Program} {l : Launch} {e : Env} {s : State} {m : MethodId} {args : Array Value} {below : List Frame} {meth : Method} {c : Code} {QQ : State → Prop} {A : Nat → Prop} {D : va_G} {q : Nat → ClassId} {u : Nat → Nat} {c0t : Cond}  (hU : uw_inj cT1b u A) (hx : p.tables.exec = Jvm.exec) (hb : c.code = cX1_init) (hml : c.maxLocals = 3) (hown : s.vm.findClass RX1 = some m.cls) (hts : ∀ w ∈ c0t :: wC_b1b, w.before args s = true) (hK : va_K D vwCl (uw_T q RX7) s) (K : Nat) (r0 : Nat) (r1 : Nat) (hr0 : cw_X1_b1b r0) (hr1 : tw_in cT1b r1 0) (z z1 : ow_MS) (hq : ce_X1j_b1b K r0 r1 z = some z1) (H : Heap) (locs : List Loc) (ls : Array Slot) (hM : uw_M D vwCl cT1b q A s.heap u z H locs) (hl : lv_has ls 3 [(0, .ref (u r0)), (1, .ref (u r1))]) (kk : ∀ (H : Heap) (locs : List Loc) (ls : Array Slot), uw_M D vwCl cT1b q A s.heap u z1 H locs → lv_has ls 3 [(0, .ref (u r0)), (1, .ref (u r1))] → W p l e RI1 s m args below meth c H locs 35 51832 QQ (F0 m 263 ls [])) : W p l e RI1 s m args below meth c H locs 35 51832 QQ (F0 m 224 ls []) := by
  have hT : ∀ w ∈ wC_b1b, w.before args s = true := fun w h => hts w (List.mem_cons_of_mem _ h)
  have key : ∀ k : Nat, (∀ (x2 : Int32) (r0 : Nat) (r1 : Nat) (z : ow_MS) (H : Heap) (locs : List Loc) (ls : Array Slot), cw_X1_b1b r0 → tw_in cT1b r1 0 → (∀ (H : Heap) (locs : List Loc) (ls : Array Slot), uw_M D vwCl cT1b q A s.heap u z1 H locs → lv_has ls 3 [(0, .ref (u r0)), (1, .ref (u r1))] → W p l e RI1 s m args below meth c H locs 35 51832 QQ (F0 m 263 ls [])) → uw_M D vwCl cT1b q A s.heap u z H locs → lv_has ls 3 [(0, .ref (u r0)), (1, .ref (u r1))] → c_X1j_b1b K k 0 x2 r0 r1 z = some z1 → W p l e RI1 s m args below meth c H locs 35 51832 QQ (F0 m 224 ls [])) ∧ (∀ (x2 : Int32) (r0 : Nat) (r1 : Nat) (z : ow_MS) (H : Heap) (locs : List Loc) (ls : Array Slot), cw_X1_b1b r0 → tw_in cT1b r1 0 → (∀ (H : Heap) (locs : List Loc) (ls : Array Slot), uw_M D vwCl cT1b q A s.heap u z1 H locs → lv_has ls 3 [(0, .ref (u r0)), (1, .ref (u r1))] → W p l e RI1 s m args below meth c H locs 35 51832 QQ (F0 m 263 ls [])) → uw_M D vwCl cT1b q A s.heap u z H locs → lv_has ls 3 [(0, .ref (u r0)), (1, .ref (u r1)), (2, .int x2)] → c_X1j_b1b K k 1 x2 r0 r1 z = some z1 → W p l e RI1 s m args below meth c H locs 35 51832 QQ (F0 m 226 ls [])) := by
    intro k
    induction k with
    | zero => exact ⟨fun _ _ _ _ _ _ _ _ _ _ _ _ hq => tw_no_b1b hq, fun _ _ _ _ _ _ _ _ _ _ _ _ hq => tw_no_b1b hq⟩
    | succ k ih =>
      obtain ⟨ih_0, ih_1⟩ := ih
      refine ⟨?_, ?_⟩
      · intro x2 r0 r1 z H locs ls hr0 hr1 kk hM hl hq
        have hq : cm_X1j_0_b1b K (c_X1j_b1b K k) x2 r0 r1 z = some z1 := hq
        unfold cm_X1j_0_b1b at hq
        refine lv_iconst (v := 0) hx hb dX1_init_224 (by decide) ?_
        refine lv_istore_n (lv' := [(2, .int 0), (0, .ref (u r0)), (1, .ref (u r1))]) hx hb dX1_init_225 rfl hl (by decide) rfl (fun ls hl => ?_)
        exact ih_1 0 r0 r1 z H locs ls hr0 hr1 kk hM (lv_sub hl [1, 2, 0] rfl) hq
      · intro x2 r0 r1 z H locs ls hr0 hr1 kk hM hl hq
        have hq : cm_X1j_1_b1b K (c_X1j_b1b K k) x2 r0 r1 z = some z1 := hq
        unfold cm_X1j_1_b1b at hq
        refine lv_iload_n hx hb dX1_init_226 rfl (lv_at hl 2 rfl) ?_
        refine lv_aload_n hx hb dX1_init_227 rfl (lv_at hl 0 rfl) ?_
        refine vgX1_29_b1b hx hb hT hown hK hM hr0 dX1_init_228 ?_
        refine uw_alen cT1b_ok hx hb hK hM (cr_X1_4_b1b hr0) dX1_init_231 ?_
        refine lv_icmp_ge (tgt := 263) hx hb dX1_init_232 (by decide) (fun hc => ?_) (fun hc => ?_)
        · have hq := tw_it hq hc
          rw [Option.some.inj hq] at hM
          exact kk H locs ls hM (lv_sub hl [0, 1] rfl)
        · have hq := tw_if hq hc
          refine lv_aload_n hx hb dX1_init_235 rfl (lv_at hl 0 rfl) ?_
          refine vgX1_29_b1b hx hb hT hown hK hM hr0 dX1_init_236 ?_
          refine lv_iload_n hx hb dX1_init_239 rfl (lv_at hl 2 rfl) ?_
          refine lv_aload_n hx hb dX1_init_240 rfl (lv_at hl 1 rfl) ?_
          refine lv_iload_n hx hb dX1_init_241 rfl (lv_at hl 2 rfl) ?_
          refine cw_pure_b1b hM (va_runS (As := [.int x2]) (rest := [.ref (u r1), .int x2, .ref (u (r0 + 5))]) ⟨hx, hb, hml, hown, hts⟩ (k_J6_bitCount_0f7a4 l x2) (va_cwS 1 hts (cw_gbc_b1b xq_30_b1b) rfl rfl rfl (by decide +kernel) ⟨(Nat.le_of_ble_eq_true rfl), (Nat.le_of_ble_eq_true rfl)⟩) ⟨fun a U g mk q => q, fun U hU hW => ⟨rfl, trivial⟩⟩ rfl rfl hl.1 rfl (lv_room (Nat.le_of_ble_eq_true rfl)) dX1_init_242 ⟨(Nat.le_of_ble_eq_true rfl), (Nat.le_of_ble_eq_true rfl)⟩) (fun H locs hM => ?_)
          refine uw_iald cT1b_ok hx hb hK hM hr1 hq dX1_init_245 (fun v2 hq => ?_)
          refine uw_iast cT1b_ok hU hx hb hK hM (cr_X1_4_b1b hr0) hq dX1_init_246 (fun z3 H locs hM hq => ?_)
          refine lv_aload_n hx hb dX1_init_247 rfl (lv_at hl 1 rfl) ?_
          refine lv_iload_n hx hb dX1_init_248 rfl (lv_at hl 2 rfl) ?_
          refine cw_pure_b1b hM (va_runS (As := [.int x2]) (rest := [.ref (u r1)]) ⟨hx, hb, hml, hown, hts⟩ (k_J6_bitCount_0f7a4 l x2) (va_cwS 1 hts (cw_gbc_b1b xq_30_b1b) rfl rfl rfl (by decide +kernel) ⟨(Nat.le_of_ble_eq_true rfl), (Nat.le_of_ble_eq_true rfl)⟩) ⟨fun a U g mk q => q, fun U hU hW => ⟨rfl, trivial⟩⟩ rfl rfl hl.1 rfl (lv_room (Nat.le_of_ble_eq_true rfl)) dX1_init_249 ⟨(Nat.le_of_ble_eq_true rfl), (Nat.le_of_ble_eq_true rfl)⟩) (fun H locs hM => ?_)
          refine lv_dup2_11 hx hb dX1_init_252 rfl rfl ?_
          refine uw_iald cT1b_ok hx hb hK hM hr1 hq dX1_init_253 (fun v5 hq => ?_)
          refine lv_iconst (v := 1) hx hb dX1_init_254 (by decide) ?_
          refine lv_iadd hx hb dX1_init_255 ?_
          refine uw_iast cT1b_ok hU hx hb hK hM hr1 hq dX1_init_256 (fun z6 H locs hM hq => ?_)
          refine lv_iinc (v := (x2 + 1)) (lv' := [(2, .int (x2 + 1)), (0, .ref (u r0)), (1, .ref (u r1))]) hx hb dX1_init_257 hl (k := 2) rfl rfl (by decide) rfl (fun ls hl => ?_)
          refine lv_goto (tgt := 226) hx hb dX1_init_260 (by decide) ?_
          exact ih_1 (x2 + 1) r0 r1 z6 H locs ls hr0 hr1 kk hM (lv_sub hl [1, 2, 0] rfl) hq
  exact (key K).1 0 r0 r1 z H locs ls hr0 hr1 kk hM hl hq
