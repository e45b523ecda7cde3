def ci_X0_b0 : List Nat := [41000]
def cw_X0_b0 (n : Nat) : Prop := n ∈ ci_X0_b0
theorem co_X0_b0 {n : Nat} (hn : cw_X0_b0 n) : tw_ob cT0 n 3 (cX_o0 n) := by
  have key : ∀ n, n ∈ ci_X0_b0 → (n ∈ cT0.1 ∧ cT0.2 n = (9, 3, cX_o0 n)) := by decide +kernel
  exact (key n hn)
theorem cr_X0_5_b0 {n : Nat} (hn : cw_X0_b0 n) : tw_in cT0 (n + 6) 1 := by
  have key : ∀ n, n ∈ ci_X0_b0 → (n + 6 ∈ cT0.1 ∧ (cT0.2 (n + 6)).1 = 1) := by decide +kernel
  exact (key n hn)
theorem cr_X0_6_b0 {n : Nat} (hn : cw_X0_b0 n) : tw_in cT0 (n + 7) 1 := by
  have key : ∀ n, n ∈ ci_X0_b0 → (n + 7 ∈ cT0.1 ∧ (cT0.2 (n + 7)).1 = 1) := by decide +kernel
  exact (key n hn)
def xA_0_b0 : List Cond := [.code yX5_image cX5_image 2 (some .int), .methodLink RX5 15 yX5_image, .static yX5_image, .initialized RX5, .code yX5_invert cX5_invert 4 (some .int), .code yX0_indexOf cX0_indexOf 3 (some .int), .code yX0_listPermutations cX0_listPermutations 7 none, .methodLink RX0 3 objectInit, .instanceMethod objectInit, .code objectInit ⟨#[0xb1]⟩ 1 none, .fieldLink RX0 9 "KnotHouse$Arcs" "arc" "[I", .fieldLink RX0 17 "KnotHouse$Arcs" "matrix" "[[J", .fieldLink RX0 20 "KnotHouse$Arcs" "divisors" "[J", .fieldLink RX0 24 "KnotHouse$Arcs" "conjugates" "[B", .fieldLink RX0 28 "KnotHouse$Arcs" "inverses" "[B", .fieldLink RX0 31 "KnotHouse$Arcs" "classSize" "[I", .fieldLink RX0 34 "KnotHouse$Arcs" "value" "[I", .fieldLink RX0 37 "KnotHouse$Arcs" "stepKind" "[I", .fieldLink RX0 40 "KnotHouse$Arcs" "stepTo" "[I", .fieldLink RX0 43 "KnotHouse$Arcs" "stepBy" "[I", .fieldLink RX0 46 "KnotHouse$Arcs" "stepFrom" "[I", .fieldLink RX0 49 "KnotHouse$Arcs" "stepInverse" "[Z", .methodLink RX0 53 yX0_listPermutations, .static yX0_listPermutations, .initialized RX0, .methodLink RX0 57 yX5_image, .methodLink RX0 63 yX0_indexOf, .static yX0_indexOf, .methodLink RX0 67 yX5_invert, .static yX5_invert, .code yX0_init cX0_init 7 none]
def wC_b0 : List Cond := xA_0_b0 ++ (wsX00)
theorem wC_good_b0 : wC_b0.all goodWord = true := by decide +kernel
theorem xq_0_b0 : (Cond.code yX5_image cX5_image 2 (some .int)) ∈ wC_b0 := List.mem_append_left _ (List.mem_of_getElem? (i := 0) rfl)
theorem xq_1_b0 : (Cond.methodLink RX5 15 yX5_image) ∈ wC_b0 := List.mem_append_left _ (List.mem_of_getElem? (i := 1) rfl)
theorem xq_2_b0 : (Cond.static yX5_image) ∈ wC_b0 := List.mem_append_left _ (List.mem_of_getElem? (i := 2) rfl)
theorem xq_3_b0 : (Cond.initialized RX5) ∈ wC_b0 := List.mem_append_left _ (List.mem_of_getElem? (i := 3) rfl)
theorem xq_4_b0 : (Cond.code yX5_invert cX5_invert 4 (some .int)) ∈ wC_b0 := List.mem_append_left _ (List.mem_of_getElem? (i := 4) rfl)
theorem xq_5_b0 : (Cond.code yX0_indexOf cX0_indexOf 3 (some .int)) ∈ wC_b0 := List.mem_append_left _ (List.mem_of_getElem? (i := 5) rfl)
theorem xq_6_b0 : (Cond.code yX0_listPermutations cX0_listPermutations 7 none) ∈ wC_b0 := List.mem_append_left _ (List.mem_of_getElem? (i := 6) rfl)
theorem xq_13_b0 : (Cond.fieldLink RX0 24 "KnotHouse$Arcs" "conjugates" "[B") ∈ wC_b0 := List.mem_append_left _ (List.mem_of_getElem? (i := 13) rfl)
theorem xq_14_b0 : (Cond.fieldLink RX0 28 "KnotHouse$Arcs" "inverses" "[B") ∈ wC_b0 := List.mem_append_left _ (List.mem_of_getElem? (i := 14) rfl)
theorem xq_22_b0 : (Cond.methodLink RX0 53 yX0_listPermutations) ∈ wC_b0 := List.mem_append_left _ (List.mem_of_getElem? (i := 22) rfl)
theorem xq_23_b0 : (Cond.static yX0_listPermutations) ∈ wC_b0 := List.mem_append_left _ (List.mem_of_getElem? (i := 23) rfl)
theorem xq_24_b0 : (Cond.initialized RX0) ∈ wC_b0 := List.mem_append_left _ (List.mem_of_getElem? (i := 24) rfl)
theorem xq_25_b0 : (Cond.methodLink RX0 57 yX5_image) ∈ wC_b0 := List.mem_append_left _ (List.mem_of_getElem? (i := 25) rfl)
theorem xq_26_b0 : (Cond.methodLink RX0 63 yX0_indexOf) ∈ wC_b0 := List.mem_append_left _ (List.mem_of_getElem? (i := 26) rfl)
theorem xq_27_b0 : (Cond.static yX0_indexOf) ∈ wC_b0 := List.mem_append_left _ (List.mem_of_getElem? (i := 27) rfl)
theorem xq_28_b0 : (Cond.methodLink RX0 67 yX5_invert) ∈ wC_b0 := List.mem_append_left _ (List.mem_of_getElem? (i := 28) rfl)
theorem xq_29_b0 : (Cond.static yX5_invert) ∈ wC_b0 := List.mem_append_left _ (List.mem_of_getElem? (i := 29) rfl)
theorem wC_X0_b0 : ∀ w ∈ u_ws RX0 TX0 16, w ∈ wC_b0 := fun _ h => List.mem_append_right _ (h)
def cw_pre_b0 (D : va_G) (q : Nat → ClassId) (u : Nat → Nat) (z : ow_MS) (U : State) : Prop := va_P D vwCl (uw cT0 q u z) U.heap ∧ va_K D vwCl (uw_T q RX7) U
section CRULES
variable {p : Program} {l : Launch} {e : Env} {R : Room} {s : State} {m : MethodId} {args : Array Value} {below : List Frame} {meth : Method} {c : Code} {H : Heap} {locs : List Loc} {cells slots : Nat} {Q : State → Prop}
variable {cc : ByteArray} {pc : Nat} {ls : Array Slot} {rest : List Value} {D : va_G} {A : Nat → Prop} {H0 : Heap} {q : Nat → ClassId} {u : Nat → Nat} {z : ow_MS} {O : Type} {out : O}

theorem cw_preS_b0 (hK : va_K D vwCl (uw_T q RX7) s) (hM : uw_M D vwCl cT0 q A H0 u z H locs) {As : List Value} : PreS s H (va_Pc As (cw_pre_b0 D q u z)) As := by
  refine ⟨fun a U g mk q => by obtain ⟨q0, qP, qK⟩ := q; exact ⟨q0, qP, va_K.moved (u := U) (U := U.calling g mk a) (Vm.Alike.refl U.vm) qK⟩, fun U hU hW => ⟨rfl, by rw [hU]; exact hM.1, va_K.moved hW.alike hK⟩⟩
theorem vgX0_24_b0 (hx : p.tables.exec = Jvm.exec) (hb : c.code = cc) (hT : ∀ w ∈ wC_b0, w.before args s = true) (hown : s.vm.findClass RX0 = some m.cls) (hK : va_K D vwCl (uw_T q RX7) s) (hM : uw_M D vwCl cT0 q A H0 u z H locs) {n : Nat} (hn : cw_X0_b0 n) (hdg : decode cc pc = .ok (.getfield 24, 3)) (kk : W p l e R s m args below meth c H locs cells slots Q (F0 m (pc + 3) ls (.ref (u (n + 6)) :: rest))) : W p l e R s m args below meth c H locs cells slots Q (F0 m pc ls (.ref (u n) :: rest)) := uw_getR (C := RX0) (T := TX0) (N := 16) cT0_ok hx hb hT wC_X0_b0 hown hK hM (co_X0_b0 hn) rfl 5 (by decide) (hT _ xq_13_b0) (fun _ h9 => h9) rfl hdg kk
theorem vgX0_28_b0 (hx : p.tables.exec = Jvm.exec) (hb : c.code = cc) (hT : ∀ w ∈ wC_b0, w.before args s = true) (hown : s.vm.findClass RX0 = some m.cls) (hK : va_K D vwCl (uw_T q RX7) s) (hM : uw_M D vwCl cT0 q A H0 u z H locs) {n : Nat} (hn : cw_X0_b0 n) (hdg : decode cc pc = .ok (.getfield 28, 3)) (kk : W p l e R s m args below meth c H locs cells slots Q (F0 m (pc + 3) ls (.ref (u (n + 7)) :: rest))) : W p l e R s m args below meth c H locs cells slots Q (F0 m pc ls (.ref (u n) :: rest)) := uw_getR (C := RX0) (T := TX0) (N := 16) cT0_ok hx hb hT wC_X0_b0 hown hK hM (co_X0_b0 hn) rfl 6 (by decide) (hT _ xq_14_b0) (fun _ h9 => h9) rfl hdg kk
theorem cw_iret_b0 {x r : Int32} {z1 : ow_MS} (hx : p.tables.exec = Jvm.exec) (hb : c.code = cc) (hr : meth.sig.returnType = some .int) (hlocks : meth.locks = false) (hM : uw_M D vwCl cT0 q (tw_A cT0 u) s.heap u z H locs) (hq : some (x, z) = some (r, z1)) (hQ : Q = MQ below (va_Qi (fun x (_ : Unit) => x = r) (fun _ t => va_P D vwCl (uw cT0 q u z1) t.heap) (tw_A cT0 u)) args s 0 0 (tw_A cT0 u)) (hdg : decode cc pc = .ok (.ireturn, 1)) : W p l e R s m args below meth c H locs 0 0 Q (F0 m pc ls [.int x]) := by
  obtain ⟨rfl, rfl⟩ := Prod.mk.inj (Option.some.inj hq)
  rw [hQ]
  exact W.iret (v := x) hx hb hr (fun t ht hW => ⟨⟨x, (), rfl, rfl, by show va_P D vwCl (uw cT0 q u z) t.heap; rw [ht]; exact hM.1⟩, hM.2.F ht⟩) hM.2.2.2 hdg hlocks
theorem cw_vret_b0 {z1 : ow_MS} (hx : p.tables.exec = Jvm.exec) (hb : c.code = cc) (hr : meth.sig.returnType = none) (hlocks : meth.locks = false) (hM : uw_M D vwCl cT0 q (tw_A cT0 u) s.heap u z H locs) (hq : some z = some z1) (hQ : Q = MQ below (va_Qv (fun (_ : Unit) => True) (fun _ t => va_P D vwCl (uw cT0 q u z1) t.heap) (tw_A cT0 u)) args s 0 0 (tw_A cT0 u)) (hdg : decode cc pc = .ok (.return_, 1)) : W p l e R s m args below meth c H locs 0 0 Q (F0 m pc ls []) := by
  obtain rfl := Option.some.inj hq
  rw [hQ]
  exact W.vret hx hb hr (fun t ht hW => ⟨⟨(), rfl, trivial, by show va_P D vwCl (uw cT0 q u z) t.heap; rw [ht]; exact hM.1⟩, hM.2.F ht⟩) hM.2.2.2 hdg hlocks
end CRULES
theorem dcX5_image_0_b0 : decode cX5_image 0 = .ok (.iload_n 0, 1) := by decide +kernel
theorem dcX5_image_1_b0 : decode cX5_image 1 = .ok (.iconst 4, 1) := by decide +kernel
theorem dcX5_image_2_b0 : decode cX5_image 2 = .ok (.iload_n 1, 1) := by decide +kernel
theorem dcX5_image_3_b0 : decode cX5_image 3 = .ok (.imul, 1) := by decide +kernel
theorem dcX5_image_4_b0 : decode cX5_image 4 = .ok (.ishr, 1) := by decide +kernel
theorem dcX5_image_5_b0 : decode cX5_image 5 = .ok (.bipush 15, 2) := by decide +kernel
theorem dcX5_image_7_b0 : decode cX5_image 7 = .ok (.iand, 1) := by decide +kernel
theorem dcX5_image_8_b0 : decode cX5_image 8 = .ok (.ireturn, 1) := by decide +kernel
def cm_X5_image_0_b0 (K : Nat) (x0 : Int32) (x1 : Int32) (z : ow_MS) : Option (Int32 × ow_MS) :=
 some ((((x0 : Int32) >>> (((4 * x1) : Int32) &&& 31)) &&& 15), z)
def ce_X5_image_b0 (K : Nat) (x0 : Int32) (x1 : Int32) (z : ow_MS) : Option (Int32 × ow_MS) := cm_X5_image_0_b0 K x0 x1 z
abbrev wc_X5_image_b0 : List Cond := .code yX5_image cX5_image 2 (some .int) :: wC_b0
theorem cdd_X5_image_b0 : yX5_image.cls ≠ "java/lang/invoke/MethodHandle" ∧ yX5_image.cls ≠ "java/lang/invoke/VarHandle" ∧ (parseMethodDescriptor yX5_image.desc).map (fun d => d.parameters.length) = some 2 := by decide +kernel
set_option maxHeartbeats 4000000 in
set_option maxRecDepth 100000 in
theorem kc_X5_image_b0 (l : Launch) (D : va_G) (q : Nat → ClassId) (u : Nat → Nat) (hU0 : tw_inj cT0 u) (K : Nat) (x0 : Int32) (x1 : Int32)  (z z1 : ow_MS) (r : Int32) (hq : ce_X5_image_b0 K x0 x1 z = some (r, z1)) : Met l yX5_image wc_X5_image_b0 ({ frames := 0, cells := 0, slots := 0, locals := 0 } : Room) (va_Pc [.int x0, .int x1] (cw_pre_b0 D q u z)) (va_Qi (fun x (_ : Unit) => x = r) (fun _ t => va_P D vwCl (uw cT0 q u z1) t.heap) (tw_A cT0 u)) 0 0 (tw_A cT0 u) := by
  refine Met.ofW (cc := cX5_image) (maxL := 2) (ret := (some .int)) (by decide) rfl ?_
  intro p e s m args below meth c s₁ B hml hv
  obtain ⟨rfl, hP, hK⟩ := hv
  have hx := B.exec
  have hb := B.bytes
  have hr := B.returns
  have hts := atoms_spec (ws := wc_X5_image_b0) B.pre
  have hT : ∀ w ∈ wC_b0, w.before ([.int x0, .int x1] : List Value).toArray s = true := fun w h => hts w (List.mem_cons_of_mem _ h)
  have hown : s.vm.findClass RX5 = some m.cls := findClass_of_methodNamed B.named
  have hlocks := B.notSynchronized
  have hU : uw_inj cT0 u (tw_A cT0 u) := ⟨hU0, fun h hh => ⟨h, hh, rfl⟩⟩
  have hM : uw_M D vwCl cT0 q (tw_A cT0 u) s.heap u z s.heap [] := ⟨hP, va_S.rf⟩
  have hl := lv_entry ([.int x0, .int x1]) (n := 2) (Nat.le_of_ble_eq_true rfl)
  rw [lg_entry_eq]
  generalize (lg_sl ([.int x0, .int x1]) ++ List.replicate (2 - (lg_sl ([.int x0, .int x1])).length) Slot.unset).toArray = ls at hl ⊢
  have hl : lv_has ls 2 [(0, .int x0), (1, .int x1)] := hl
  refine ow_named (fun QQ hQQ => ?_)
  generalize ([.int x0, .int x1] : List Value).toArray = args at hts hT hQQ ⊢
  have hq : cm_X5_image_0_b0 K x0 x1 z = some (r, z1) := hq
  unfold cm_X5_image_0_b0 at hq
  suffices key : ∀ (H : Heap) (locs : List Loc), uw_M D vwCl cT0 q (tw_A cT0 u) s.heap u z H locs → W p l e ({ frames := 0, cells := 0, slots := 0, locals := 0 } : Room) s m args below meth c H locs 0 0 QQ (F0 m 0 ls []) from key s.heap [] hM
  intro H locs hM
  refine lv_iload_n hx hb dcX5_image_0_b0 rfl (lv_at hl 0 rfl) ?_
  refine lv_iconst (v := 4) hx hb dcX5_image_1_b0 (by decide) ?_
  refine lv_iload_n hx hb dcX5_image_2_b0 rfl (lv_at hl 1 rfl) ?_
  refine lv_imul hx hb dcX5_image_3_b0 ?_
  refine lv_ishr hx hb dcX5_image_4_b0 ?_
  refine lv_bipush (v := 15) hx hb dcX5_image_5_b0 (by decide) ?_
  refine lv_iand hx hb dcX5_image_7_b0 ?_
  exact cw_iret_b0 hx hb hr hlocks hM hq hQQ dcX5_image_8_b0
theorem dcX5_invert_0_b0 : decode cX5_invert 0 = .ok (.iconst 0, 1) := by decide +kernel
theorem dcX5_invert_1_b0 : decode cX5_invert 1 = .ok (.istore_n 2, 1) := by decide +kernel
theorem dcX5_invert_2_b0 : decode cX5_invert 2 = .ok (.iconst 0, 1) := by decide +kernel
theorem dcX5_invert_3_b0 : decode cX5_invert 3 = .ok (.istore_n 3, 1) := by decide +kernel
theorem dcX5_invert_4_b0 : decode cX5_invert 4 = .ok (.iload_n 3, 1) := by decide +kernel
theorem dcX5_invert_5_b0 : decode cX5_invert 5 = .ok (.iload_n 1, 1) := by decide +kernel
theorem dcX5_invert_6_b0 : decode cX5_invert 6 = .ok (.if_icmp .ge 21, 3) := by decide +kernel
theorem dcX5_invert_9_b0 : decode cX5_invert 9 = .ok (.iload_n 2, 1) := by decide +kernel
theorem dcX5_invert_10_b0 : decode cX5_invert 10 = .ok (.iload_n 3, 1) := by decide +kernel
theorem dcX5_invert_11_b0 : decode cX5_invert 11 = .ok (.iconst 4, 1) := by decide +kernel
theorem dcX5_invert_12_b0 : decode cX5_invert 12 = .ok (.iload_n 0, 1) := by decide +kernel
theorem dcX5_invert_13_b0 : decode cX5_invert 13 = .ok (.iload_n 3, 1) := by decide +kernel
theorem dcX5_invert_14_b0 : decode cX5_invert 14 = .ok (.invokestatic 15, 3) := by decide +kernel
theorem dcX5_invert_17_b0 : decode cX5_invert 17 = .ok (.imul, 1) := by decide +kernel
theorem dcX5_invert_18_b0 : decode cX5_invert 18 = .ok (.ishl, 1) := by decide +kernel
theorem dcX5_invert_19_b0 : decode cX5_invert 19 = .ok (.ior, 1) := by decide +kernel
theorem dcX5_invert_20_b0 : decode cX5_invert 20 = .ok (.istore_n 2, 1) := by decide +kernel
theorem dcX5_invert_21_b0 : decode cX5_invert 21 = .ok (.iinc 3 1, 3) := by decide +kernel
theorem dcX5_invert_24_b0 : decode cX5_invert 24 = .ok (.goto (-20), 3) := by decide +kernel
theorem dcX5_invert_27_b0 : decode cX5_invert 27 = .ok (.iload_n 2, 1) := by decide +kernel
theorem dcX5_invert_28_b0 : decode cX5_invert 28 = .ok (.ireturn, 1) := by decide +kernel
def cm_X5_invert_0_b0 (K : Nat) (go : Nat → Int32 → Int32 → Int32 → Int32 → ow_MS → Option (Int32 × ow_MS)) (x0 : Int32) (x1 : Int32) (x2 : Int32) (x3 : Int32) (z : ow_MS) : Option (Int32 × ow_MS) :=
 go 1 x0 x1 0 0 z
def cm_X5_invert_1_b0 (K : Nat) (go : Nat → Int32 → Int32 → Int32 → Int32 → ow_MS → Option (Int32 × ow_MS)) (x0 : Int32) (x1 : Int32) (x2 : Int32) (x3 : Int32) (z : ow_MS) : Option (Int32 × ow_MS) :=
 (if x1 ≤ x3 then some (x2, z)
 else cs1 (ce_X5_image_b0 K x0 x3 z) fun v2 z1 => go 1 x0 x1 (x2 ||| ((x3 : Int32) <<< (((4 * v2) : Int32) &&& 31))) (x3 + 1) z1)
def cb_X5_invert_b0 (K : Nat) (go : Nat → Int32 → Int32 → Int32 → Int32 → ow_MS → Option (Int32 × ow_MS)) (L : Nat) (x0 : Int32) (x1 : Int32) (x2 : Int32) (x3 : Int32) (z : ow_MS) : Option (Int32 × ow_MS) := match L with
  | 0 => cm_X5_invert_0_b0 K go x0 x1 x2 x3 z
  | 1 => cm_X5_invert_1_b0 K go x0 x1 x2 x3 z
  | _ => none
def c_X5_invert_b0 (K : Nat) : Nat → Nat → Int32 → Int32 → Int32 → Int32 → ow_MS → Option (Int32 × ow_MS)
  | 0 => fun _ _ _ _ _ _ => none
  | k + 1 => cb_X5_invert_b0 K (c_X5_invert_b0 K k)
def ce_X5_invert_b0 (K : Nat) (x0 : Int32) (x1 : Int32) (z : ow_MS) : Option (Int32 × ow_MS) := c_X5_invert_b0 K K 0 x0 x1 0 0 z
abbrev wc_X5_invert_b0 : List Cond := .code yX5_invert cX5_invert 4 (some .int) :: wC_b0
theorem cdd_X5_invert_b0 : yX5_invert.cls ≠ "java/lang/invoke/MethodHandle" ∧ yX5_invert.cls ≠ "java/lang/invoke/VarHandle" ∧ (parseMethodDescriptor yX5_invert.desc).map (fun d => d.parameters.length) = some 2 := by decide +kernel
set_option maxHeartbeats 4000000 in
set_option maxRecDepth 100000 in
theorem kc_X5_invert_b0 (l : Launch) (D : va_G) (q : Nat → ClassId) (u : Nat → Nat) (hU0 : tw_inj cT0 u) (K : Nat) (x0 : Int32) (x1 : Int32)  (z z1 : ow_MS) (r : Int32) (hq : ce_X5_invert_b0 K x0 x1 z = some (r, z1)) : Met l yX5_invert wc_X5_invert_b0 ({ frames := 1, cells := 0, slots := 0, locals := 21 } : Room) (va_Pc [.int x0, .int x1] (cw_pre_b0 D q u z)) (va_Qi (fun x (_ : Unit) => x = r) (fun _ t => va_P D vwCl (uw cT0 q u z1) t.heap) (tw_A cT0 u)) 0 0 (tw_A cT0 u) := by
  refine Met.ofW (cc := cX5_invert) (maxL := 4) (ret := (some .int)) (by decide) rfl ?_
  intro p e s m args below meth c s₁ B hml hv
  obtain ⟨rfl, hP, hK⟩ := hv
  have hx := B.exec
  have hb := B.bytes
  have hr := B.returns
  have hts := atoms_spec (ws := wc_X5_invert_b0) B.pre
  have hT : ∀ w ∈ wC_b0, w.before ([.int x0, .int x1] : List Value).toArray s = true := fun w h => hts w (List.mem_cons_of_mem _ h)
  have hown : s.vm.findClass RX5 = some m.cls := findClass_of_methodNamed B.named
  have hlocks := B.notSynchronized
  have hU : uw_inj cT0 u (tw_A cT0 u) := ⟨hU0, fun h hh => ⟨h, hh, rfl⟩⟩
  have hM : uw_M D vwCl cT0 q (tw_A cT0 u) s.heap u z s.heap [] := ⟨hP, va_S.rf⟩
  have hl := lv_entry ([.int x0, .int x1]) (n := 4) (Nat.le_of_ble_eq_true rfl)
  rw [lg_entry_eq]
  generalize (lg_sl ([.int x0, .int x1]) ++ List.replicate (4 - (lg_sl ([.int x0, .int x1])).length) Slot.unset).toArray = ls at hl ⊢
  have hl : lv_has ls 4 [(0, .int x0), (1, .int x1)] := hl
  refine ow_named (fun QQ hQQ => ?_)
  generalize ([.int x0, .int x1] : List Value).toArray = args at hts hT hQQ ⊢
  have key : ∀ k : Nat, (∀ (x0 : Int32) (x1 : Int32) (x2 : Int32) (x3 : Int32) (z : ow_MS) (H : Heap) (locs : List Loc) (ls : Array Slot), uw_M D vwCl cT0 q (tw_A cT0 u) s.heap u z H locs → lv_has ls 4 [(0, .int x0), (1, .int x1)] → c_X5_invert_b0 K k 0 x0 x1 x2 x3 z = some (r, z1) → W p l e ({ frames := 1, cells := 0, slots := 0, locals := 21 } : Room) s m args below meth c H locs 0 0 QQ (F0 m 0 ls [])) ∧ (∀ (x0 : Int32) (x1 : Int32) (x2 : Int32) (x3 : Int32) (z : ow_MS) (H : Heap) (locs : List Loc) (ls : Array Slot), uw_M D vwCl cT0 q (tw_A cT0 u) s.heap u z H locs → lv_has ls 4 [(0, .int x0), (1, .int x1), (2, .int x2), (3, .int x3)] → c_X5_invert_b0 K k 1 x0 x1 x2 x3 z = some (r, z1) → W p l e ({ frames := 1, cells := 0, slots := 0, locals := 21 } : Room) s m args below meth c H locs 0 0 QQ (F0 m 4 ls [])) := by
    intro k
    induction k with
    | zero => exact ⟨fun _ _ _ _ _ _ _ _  _ _ hq => tw_no hq, fun _ _ _ _ _ _ _ _  _ _ hq => tw_no hq⟩
    | succ k ih =>
      obtain ⟨ih_0, ih_1⟩ := ih
      refine ⟨?_, ?_⟩
      · intro x0 x1 x2 x3 z H locs ls  hM hl hq
        have hq : cm_X5_invert_0_b0 K (c_X5_invert_b0 K k) x0 x1 x2 x3 z = some (r, z1) := hq
        unfold cm_X5_invert_0_b0 at hq
        refine lv_iconst (v := 0) hx hb dcX5_invert_0_b0 (by decide) ?_
        refine lv_istore_n (lv' := [(2, .int 0), (0, .int x0), (1, .int x1)]) hx hb dcX5_invert_1_b0 rfl hl (by decide) rfl (fun ls hl => ?_)
        refine lv_iconst (v := 0) hx hb dcX5_invert_2_b0 (by decide) ?_
        refine lv_istore_n (lv' := [(3, .int 0), (2, .int 0), (0, .int x0), (1, .int x1)]) hx hb dcX5_invert_3_b0 rfl hl (by decide) rfl (fun ls hl => ?_)
        exact ih_1 x0 x1 0 0 z H locs ls hM (lv_sub hl [2, 3, 1, 0] rfl) hq
      · intro x0 x1 x2 x3 z H locs ls  hM hl hq
        have hq : cm_X5_invert_1_b0 K (c_X5_invert_b0 K k) x0 x1 x2 x3 z = some (r, z1) := hq
        unfold cm_X5_invert_1_b0 at hq
        refine lv_iload_n hx hb dcX5_invert_4_b0 rfl (lv_at hl 3 rfl) ?_
        refine lv_iload_n hx hb dcX5_invert_5_b0 rfl (lv_at hl 1 rfl) ?_
        refine lv_icmp_ge (tgt := 27) hx hb dcX5_invert_6_b0 (by decide) (fun hc => ?_) (fun hc => ?_)
        · have hq := tw_it hq hc
          refine lv_iload_n hx hb dcX5_invert_27_b0 rfl (lv_at hl 2 rfl) ?_
          exact cw_iret_b0 hx hb hr hlocks hM hq hQQ dcX5_invert_28_b0
        · have hq := tw_if hq hc
          refine lv_iload_n hx hb dcX5_invert_9_b0 rfl (lv_at hl 2 rfl) ?_
          refine lv_iload_n hx hb dcX5_invert_10_b0 rfl (lv_at hl 3 rfl) ?_
          refine lv_iconst (v := 4) hx hb dcX5_invert_11_b0 (by decide) ?_
          refine lv_iload_n hx hb dcX5_invert_12_b0 rfl (lv_at hl 0 rfl) ?_
          refine lv_iload_n hx hb dcX5_invert_13_b0 rfl (lv_at hl 3 rfl) ?_
          obtain ⟨v2, z1, hcq, hq⟩ := tw_cl1 hq
          refine uw_cali hU hM (va_runS (As := [.int x0, .int x3]) (rest := [.int 4, .int x3, .int x2]) ⟨hx, hb, hml, hown, hts⟩ (kc_X5_image_b0 l D q u hU.1 K x0 x3 z z1 v2 hcq) (va_cwS 2 hts (tw_gS wC_good_b0 xq_1_b0 xq_2_b0 xq_3_b0 xq_0_b0) rfl rfl rfl cdd_X5_image_b0 ⟨(Nat.le_of_ble_eq_true rfl), (Nat.le_of_ble_eq_true rfl)⟩) (cw_preS_b0 hK hM) rfl rfl hl.1 rfl (lv_room (Nat.le_of_ble_eq_true rfl)) dcX5_invert_14_b0 ⟨(Nat.le_of_ble_eq_true rfl), (Nat.le_of_ble_eq_true rfl)⟩) (fun H locs hM => ?_)
          refine lv_imul hx hb dcX5_invert_17_b0 ?_
          refine lv_ishl hx hb dcX5_invert_18_b0 ?_
          refine lv_ior hx hb dcX5_invert_19_b0 ?_
          refine lv_istore_n (lv' := [(2, .int (x2 ||| ((x3 : Int32) <<< (((4 * v2) : Int32) &&& 31)))), (0, .int x0), (1, .int x1), (3, .int x3)]) hx hb dcX5_invert_20_b0 rfl hl (by decide) rfl (fun ls hl => ?_)
          refine lv_iinc (v := (x3 + 1)) (lv' := [(3, .int (x3 + 1)), (2, .int (x2 ||| ((x3 : Int32) <<< (((4 * v2) : Int32) &&& 31)))), (0, .int x0), (1, .int x1)]) hx hb dcX5_invert_21_b0 hl (k := 3) rfl rfl (by decide) rfl (fun ls hl => ?_)
          refine lv_goto (tgt := 4) hx hb dcX5_invert_24_b0 (by decide) ?_
          exact ih_1 x0 x1 (x2 ||| ((x3 : Int32) <<< (((4 * v2) : Int32) &&& 31))) (x3 + 1) z1 H locs ls hM (lv_sub hl [2, 3, 1, 0] rfl) hq
  exact (key K).1 x0 x1 0 0 z s.heap [] ls  hM (lv_sub hl [0, 1] rfl) hq
theorem dcX0_indexOf_0_b0 : decode cX0_indexOf 0 = .ok (.iconst 0, 1) := by decide +kernel
theorem dcX0_indexOf_1_b0 : decode cX0_indexOf 1 = .ok (.istore_n 2, 1) := by decide +kernel
theorem dcX0_indexOf_2_b0 : decode cX0_indexOf 2 = .ok (.iload_n 2, 1) := by decide +kernel
theorem dcX0_indexOf_3_b0 : decode cX0_indexOf 3 = .ok (.aload_n 0, 1) := by decide +kernel
theorem dcX0_indexOf_4_b0 : decode cX0_indexOf 4 = .ok (.arraylength, 1) := by decide +kernel
theorem dcX0_indexOf_5_b0 : decode cX0_indexOf 5 = .ok (.if_icmp .ge 18, 3) := by decide +kernel
theorem dcX0_indexOf_8_b0 : decode cX0_indexOf 8 = .ok (.aload_n 0, 1) := by decide +kernel
theorem dcX0_indexOf_9_b0 : decode cX0_indexOf 9 = .ok (.iload_n 2, 1) := by decide +kernel
theorem dcX0_indexOf_10_b0 : decode cX0_indexOf 10 = .ok (.iaload, 1) := by decide +kernel
theorem dcX0_indexOf_11_b0 : decode cX0_indexOf 11 = .ok (.iload_n 1, 1) := by decide +kernel
theorem dcX0_indexOf_12_b0 : decode cX0_indexOf 12 = .ok (.if_icmp .ne 5, 3) := by decide +kernel
theorem dcX0_indexOf_15_b0 : decode cX0_indexOf 15 = .ok (.iload_n 2, 1) := by decide +kernel
theorem dcX0_indexOf_16_b0 : decode cX0_indexOf 16 = .ok (.ireturn, 1) := by decide +kernel
theorem dcX0_indexOf_17_b0 : decode cX0_indexOf 17 = .ok (.iinc 2 1, 3) := by decide +kernel
theorem dcX0_indexOf_20_b0 : decode cX0_indexOf 20 = .ok (.goto (-18), 3) := by decide +kernel
theorem dcX0_indexOf_23_b0 : decode cX0_indexOf 23 = .ok (.iconst 0, 1) := by decide +kernel
theorem dcX0_indexOf_24_b0 : decode cX0_indexOf 24 = .ok (.ireturn, 1) := by decide +kernel
def cm_X0_indexOf_0_b0 (K : Nat) (go : Nat → Int32 → Int32 → Nat → ow_MS → Option (Int32 × ow_MS)) (x1 : Int32) (x2 : Int32) (r0 : Nat) (z : ow_MS) : Option (Int32 × ow_MS) :=
 go 1 x1 0 r0 z
def cm_X0_indexOf_1_b0 (K : Nat) (go : Nat → Int32 → Int32 → Nat → ow_MS → Option (Int32 × ow_MS)) (x1 : Int32) (x2 : Int32) (r0 : Nat) (z : ow_MS) : Option (Int32 × ow_MS) :=
 (if (Int32.ofNat (uw_len cT0 z r0)) ≤ x2 then some (0, z)
 else crI cT0 z r0 x2 fun v1 => (if v1 = x1 then some (x2, z)
 else go 1 x1 (x2 + 1) r0 z))
def cb_X0_indexOf_b0 (K : Nat) (go : Nat → Int32 → Int32 → Nat → ow_MS → Option (Int32 × ow_MS)) (L : Nat) (x1 : Int32) (x2 : Int32) (r0 : Nat) (z : ow_MS) : Option (Int32 × ow_MS) := match L with
  | 0 => cm_X0_indexOf_0_b0 K go x1 x2 r0 z
  | 1 => cm_X0_indexOf_1_b0 K go x1 x2 r0 z
  | _ => none
def c_X0_indexOf_b0 (K : Nat) : Nat → Nat → Int32 → Int32 → Nat → ow_MS → Option (Int32 × ow_MS)
  | 0 => fun _ _ _ _ _ => none
  | k + 1 => cb_X0_indexOf_b0 K (c_X0_indexOf_b0 K k)
def ce_X0_indexOf_b0 (K : Nat) (r0 : Nat) (x1 : Int32) (z : ow_MS) : Option (Int32 × ow_MS) := c_X0_indexOf_b0 K K 0 x1 0 r0 z
abbrev wc_X0_indexOf_b0 : List Cond := .code yX0_indexOf cX0_indexOf 3 (some .int) :: wC_b0
theorem cdd_X0_indexOf_b0 : yX0_indexOf.cls ≠ "java/lang/invoke/MethodHandle" ∧ yX0_indexOf.cls ≠ "java/lang/invoke/VarHandle" ∧ (parseMethodDescriptor yX0_indexOf.desc).map (fun d => d.parameters.length) = some 2 := by decide +kernel
set_option maxHeartbeats 4000000 in
set_option maxRecDepth 100000 in
theorem kc_X0_indexOf_b0 (l : Launch) (D : va_G) (q : Nat → ClassId) (u : Nat → Nat) (hU0 : tw_inj cT0 u) (K : Nat) (r0 : Nat) (x1 : Int32) (hr0 : tw_in cT0 r0 0) (z z1 : ow_MS) (r : Int32) (hq : ce_X0_indexOf_b0 K r0 x1 z = some (r, z1)) : Met l yX0_indexOf wc_X0_indexOf_b0 ({ frames := 0, cells := 0, slots := 0, locals := 0 } : Room) (va_Pc [.ref (u r0), .int x1] (cw_pre_b0 D q u z)) (va_Qi (fun x (_ : Unit) => x = r) (fun _ t => va_P D vwCl (uw cT0 q u z1) t.heap) (tw_A cT0 u)) 0 0 (tw_A cT0 u) := by
  refine Met.ofW (cc := cX0_indexOf) (maxL := 3) (ret := (some .int)) (by decide) rfl ?_
  intro p e s m args below meth c s₁ B hml hv
  obtain ⟨rfl, hP, hK⟩ := hv
  have hx := B.exec
  have hb := B.bytes
  have hr := B.returns
  have hts := atoms_spec (ws := wc_X0_indexOf_b0) B.pre
  have hT : ∀ w ∈ wC_b0, w.before ([.ref (u r0), .int x1] : List Value).toArray s = true := fun w h => hts w (List.mem_cons_of_mem _ h)
  have hown : s.vm.findClass RX0 = some m.cls := findClass_of_methodNamed B.named
  have hlocks := B.notSynchronized
  have hU : uw_inj cT0 u (tw_A cT0 u) := ⟨hU0, fun h hh => ⟨h, hh, rfl⟩⟩
  have hM : uw_M D vwCl cT0 q (tw_A cT0 u) s.heap u z s.heap [] := ⟨hP, va_S.rf⟩
  have hl := lv_entry ([.ref (u r0), .int x1]) (n := 3) (Nat.le_of_ble_eq_true rfl)
  rw [lg_entry_eq]
  generalize (lg_sl ([.ref (u r0), .int x1]) ++ List.replicate (3 - (lg_sl ([.ref (u r0), .int x1])).length) Slot.unset).toArray = ls at hl ⊢
  have hl : lv_has ls 3 [(0, .ref (u r0)), (1, .int x1)] := hl
  refine ow_named (fun QQ hQQ => ?_)
  generalize ([.ref (u r0), .int x1] : List Value).toArray = args at hts hT hQQ ⊢
  have key : ∀ k : Nat, (∀ (x1 : Int32) (x2 : Int32) (r0 : Nat) (z : ow_MS) (H : Heap) (locs : List Loc) (ls : Array Slot), tw_in cT0 r0 0 → uw_M D vwCl cT0 q (tw_A cT0 u) s.heap u z H locs → lv_has ls 3 [(0, .ref (u r0)), (1, .int x1)] → c_X0_indexOf_b0 K k 0 x1 x2 r0 z = some (r, z1) → W p l e ({ frames := 0, cells := 0, slots := 0, locals := 0 } : Room) s m args below meth c H locs 0 0 QQ (F0 m 0 ls [])) ∧ (∀ (x1 : Int32) (x2 : Int32) (r0 : Nat) (z : ow_MS) (H : Heap) (locs : List Loc) (ls : Array Slot), tw_in cT0 r0 0 → uw_M D vwCl cT0 q (tw_A cT0 u) s.heap u z H locs → lv_has ls 3 [(0, .ref (u r0)), (1, .int x1), (2, .int x2)] → c_X0_indexOf_b0 K k 1 x1 x2 r0 z = some (r, z1) → W p l e ({ frames := 0, cells := 0, slots := 0, locals := 0 } : Room) s m args below meth c H locs 0 0 QQ (F0 m 2 ls [])) := by
    intro k
    induction k with
    | zero => exact ⟨fun _ _ _ _ _ _ _ _ _ _ hq => tw_no hq, fun _ _ _ _ _ _ _ _ _ _ hq => tw_no hq⟩
    | succ k ih =>
      obtain ⟨ih_0, ih_1⟩ := ih
      refine ⟨?_, ?_⟩
      · intro x1 x2 r0 z H locs ls hr0 hM hl hq
        have hq : cm_X0_indexOf_0_b0 K (c_X0_indexOf_b0 K k) x1 x2 r0 z = some (r, z1) := hq
        unfold cm_X0_indexOf_0_b0 at hq
        refine lv_iconst (v := 0) hx hb dcX0_indexOf_0_b0 (by decide) ?_
        refine lv_istore_n (lv' := [(2, .int 0), (0, .ref (u r0)), (1, .int x1)]) hx hb dcX0_indexOf_1_b0 rfl hl (by decide) rfl (fun ls hl => ?_)
        exact ih_1 x1 0 r0 z H locs ls hr0 hM (lv_sub hl [1, 2, 0] rfl) hq
      · intro x1 x2 r0 z H locs ls hr0 hM hl hq
        have hq : cm_X0_indexOf_1_b0 K (c_X0_indexOf_b0 K k) x1 x2 r0 z = some (r, z1) := hq
        unfold cm_X0_indexOf_1_b0 at hq
        refine lv_iload_n hx hb dcX0_indexOf_2_b0 rfl (lv_at hl 2 rfl) ?_
        refine lv_aload_n hx hb dcX0_indexOf_3_b0 rfl (lv_at hl 0 rfl) ?_
        refine uw_alen cT0_ok hx hb hK hM hr0 dcX0_indexOf_4_b0 ?_
        refine lv_icmp_ge (tgt := 23) hx hb dcX0_indexOf_5_b0 (by decide) (fun hc => ?_) (fun hc => ?_)
        · have hq := tw_it hq hc
          refine lv_iconst (v := 0) hx hb dcX0_indexOf_23_b0 (by decide) ?_
          exact cw_iret_b0 hx hb hr hlocks hM hq hQQ dcX0_indexOf_24_b0
        · have hq := tw_if hq hc
          refine lv_aload_n hx hb dcX0_indexOf_8_b0 rfl (lv_at hl 0 rfl) ?_
          refine lv_iload_n hx hb dcX0_indexOf_9_b0 rfl (lv_at hl 2 rfl) ?_
          refine uw_iald cT0_ok hx hb hK hM hr0 hq dcX0_indexOf_10_b0 (fun v1 hq => ?_)
          refine lv_iload_n hx hb dcX0_indexOf_11_b0 rfl (lv_at hl 1 rfl) ?_
          refine lv_icmp_ne (tgt := 17) hx hb dcX0_indexOf_12_b0 (by decide) (fun hc => ?_) (fun hc => ?_)
          · have hq := tw_if hq hc
            refine lv_iinc (v := (x2 + 1)) (lv' := [(2, .int (x2 + 1)), (0, .ref (u r0)), (1, .int x1)]) hx hb dcX0_indexOf_17_b0 hl (k := 2) rfl rfl (by decide) rfl (fun ls hl => ?_)
            refine lv_goto (tgt := 2) hx hb dcX0_indexOf_20_b0 (by decide) ?_
            exact ih_1 x1 (x2 + 1) r0 z H locs ls hr0 hM (lv_sub hl [1, 2, 0] rfl) hq
          · have hq := tw_it hq hc
            refine lv_iload_n hx hb dcX0_indexOf_15_b0 rfl (lv_at hl 2 rfl) ?_
            exact cw_iret_b0 hx hb hr hlocks hM hq hQQ dcX0_indexOf_16_b0
  exact (key K).1 x1 0 r0 z s.heap [] ls hr0 hM (lv_sub hl [0, 1] rfl) hq
theorem dcX0_listPermutations_0_b0 : decode cX0_listPermutations 0 = .ok (.iconst 0, 1) := dw_at cX0_listPermutations_k0 (p := 0) rfl (by decide +kernel)
theorem dcX0_listPermutations_1_b0 : decode cX0_listPermutations 1 = .ok (.istore_n 1, 1) := dw_at cX0_listPermutations_k0 (p := 1) rfl (by decide +kernel)
theorem dcX0_listPermutations_2_b0 : decode cX0_listPermutations 2 = .ok (.iconst 0, 1) := dw_at cX0_listPermutations_k0 (p := 2) rfl (by decide +kernel)
theorem dcX0_listPermutations_3_b0 : decode cX0_listPermutations 3 = .ok (.istore_n 2, 1) := dw_at cX0_listPermutations_k0 (p := 3) rfl (by decide +kernel)
theorem dcX0_listPermutations_4_b0 : decode cX0_listPermutations 4 = .ok (.iload_n 2, 1) := dw_at cX0_listPermutations_k0 (p := 4) rfl (by decide +kernel)
theorem dcX0_listPermutations_5_b0 : decode cX0_listPermutations 5 = .ok (.sipush 256, 3) := dw_at cX0_listPermutations_k0 (p := 5) rfl (by decide +kernel)
theorem dcX0_listPermutations_8_b0 : decode cX0_listPermutations 8 = .ok (.if_icmp .ge 94, 3) := dw_at cX0_listPermutations_k0 (p := 8) rfl (by decide +kernel)
theorem dcX0_listPermutations_11_b0 : decode cX0_listPermutations 11 = .ok (.iload_n 1, 1) := dw_at cX0_listPermutations_k0 (p := 11) rfl (by decide +kernel)
theorem dcX0_listPermutations_12_b0 : decode cX0_listPermutations 12 = .ok (.bipush 24, 2) := dw_at cX0_listPermutations_k0 (p := 12) rfl (by decide +kernel)
theorem dcX0_listPermutations_14_b0 : decode cX0_listPermutations 14 = .ok (.if_icmp .ge 88, 3) := dw_at cX0_listPermutations_k0 (p := 14) rfl (by decide +kernel)
theorem dcX0_listPermutations_17_b0 : decode cX0_listPermutations 17 = .ok (.iconst 3, 1) := dw_at cX0_listPermutations_k0 (p := 17) rfl (by decide +kernel)
theorem dcX0_listPermutations_18_b0 : decode cX0_listPermutations 18 = .ok (.iload_n 2, 1) := dw_at cX0_listPermutations_k0 (p := 18) rfl (by decide +kernel)
theorem dcX0_listPermutations_19_b0 : decode cX0_listPermutations 19 = .ok (.bipush 6, 2) := dw_at cX0_listPermutations_k0 (p := 19) rfl (by decide +kernel)
theorem dcX0_listPermutations_21_b0 : decode cX0_listPermutations 21 = .ok (.ishr, 1) := dw_at cX0_listPermutations_k0 (p := 21) rfl (by decide +kernel)
theorem dcX0_listPermutations_22_b0 : decode cX0_listPermutations 22 = .ok (.isub, 1) := dw_at cX0_listPermutations_k0 (p := 22) rfl (by decide +kernel)
theorem dcX0_listPermutations_23_b0 : decode cX0_listPermutations 23 = .ok (.istore_n 3, 1) := dw_at cX0_listPermutations_k0 (p := 23) rfl (by decide +kernel)
theorem dcX0_listPermutations_24_b0 : decode cX0_listPermutations 24 = .ok (.iconst 3, 1) := dw_at cX0_listPermutations_k1 (p := 0) rfl (by decide +kernel)
theorem dcX0_listPermutations_25_b0 : decode cX0_listPermutations 25 = .ok (.iload_n 2, 1) := dw_at cX0_listPermutations_k1 (p := 1) rfl (by decide +kernel)
theorem dcX0_listPermutations_26_b0 : decode cX0_listPermutations 26 = .ok (.iconst 4, 1) := dw_at cX0_listPermutations_k1 (p := 2) rfl (by decide +kernel)
theorem dcX0_listPermutations_27_b0 : decode cX0_listPermutations 27 = .ok (.ishr, 1) := dw_at cX0_listPermutations_k1 (p := 3) rfl (by decide +kernel)
theorem dcX0_listPermutations_28_b0 : decode cX0_listPermutations 28 = .ok (.iconst 3, 1) := dw_at cX0_listPermutations_k1 (p := 4) rfl (by decide +kernel)
theorem dcX0_listPermutations_29_b0 : decode cX0_listPermutations 29 = .ok (.iand, 1) := dw_at cX0_listPermutations_k1 (p := 5) rfl (by decide +kernel)
theorem dcX0_listPermutations_30_b0 : decode cX0_listPermutations 30 = .ok (.isub, 1) := dw_at cX0_listPermutations_k1 (p := 6) rfl (by decide +kernel)
theorem dcX0_listPermutations_31_b0 : decode cX0_listPermutations 31 = .ok (.istore 4, 2) := dw_at cX0_listPermutations_k1 (p := 7) rfl (by decide +kernel)
theorem dcX0_listPermutations_33_b0 : decode cX0_listPermutations 33 = .ok (.iconst 3, 1) := dw_at cX0_listPermutations_k1 (p := 9) rfl (by decide +kernel)
theorem dcX0_listPermutations_34_b0 : decode cX0_listPermutations 34 = .ok (.iload_n 2, 1) := dw_at cX0_listPermutations_k1 (p := 10) rfl (by decide +kernel)
theorem dcX0_listPermutations_35_b0 : decode cX0_listPermutations 35 = .ok (.iconst 2, 1) := dw_at cX0_listPermutations_k1 (p := 11) rfl (by decide +kernel)
theorem dcX0_listPermutations_36_b0 : decode cX0_listPermutations 36 = .ok (.ishr, 1) := dw_at cX0_listPermutations_k1 (p := 12) rfl (by decide +kernel)
theorem dcX0_listPermutations_37_b0 : decode cX0_listPermutations 37 = .ok (.iconst 3, 1) := dw_at cX0_listPermutations_k1 (p := 13) rfl (by decide +kernel)
theorem dcX0_listPermutations_38_b0 : decode cX0_listPermutations 38 = .ok (.iand, 1) := dw_at cX0_listPermutations_k1 (p := 14) rfl (by decide +kernel)
theorem dcX0_listPermutations_39_b0 : decode cX0_listPermutations 39 = .ok (.isub, 1) := dw_at cX0_listPermutations_k1 (p := 15) rfl (by decide +kernel)
theorem dcX0_listPermutations_40_b0 : decode cX0_listPermutations 40 = .ok (.istore 5, 2) := dw_at cX0_listPermutations_k1 (p := 16) rfl (by decide +kernel)
theorem dcX0_listPermutations_42_b0 : decode cX0_listPermutations 42 = .ok (.iconst 3, 1) := dw_at cX0_listPermutations_k1 (p := 18) rfl (by decide +kernel)
theorem dcX0_listPermutations_43_b0 : decode cX0_listPermutations 43 = .ok (.iload_n 2, 1) := dw_at cX0_listPermutations_k1 (p := 19) rfl (by decide +kernel)
theorem dcX0_listPermutations_44_b0 : decode cX0_listPermutations 44 = .ok (.iconst 3, 1) := dw_at cX0_listPermutations_k1 (p := 20) rfl (by decide +kernel)
theorem dcX0_listPermutations_45_b0 : decode cX0_listPermutations 45 = .ok (.iand, 1) := dw_at cX0_listPermutations_k1 (p := 21) rfl (by decide +kernel)
theorem dcX0_listPermutations_46_b0 : decode cX0_listPermutations 46 = .ok (.isub, 1) := dw_at cX0_listPermutations_k1 (p := 22) rfl (by decide +kernel)
theorem dcX0_listPermutations_47_b0 : decode cX0_listPermutations 47 = .ok (.istore 6, 2) := dw_at cX0_listPermutations_k1 (p := 23) rfl (by decide +kernel)
theorem dcX0_listPermutations_49_b0 : decode cX0_listPermutations 49 = .ok (.iconst 1, 1) := dw_at cX0_listPermutations_k2 (p := 0) rfl (by decide +kernel)
theorem dcX0_listPermutations_50_b0 : decode cX0_listPermutations 50 = .ok (.iload 6, 2) := dw_at cX0_listPermutations_k2 (p := 1) rfl (by decide +kernel)
theorem dcX0_listPermutations_52_b0 : decode cX0_listPermutations 52 = .ok (.ishl, 1) := dw_at cX0_listPermutations_k2 (p := 3) rfl (by decide +kernel)
theorem dcX0_listPermutations_53_b0 : decode cX0_listPermutations 53 = .ok (.iconst 1, 1) := dw_at cX0_listPermutations_k2 (p := 4) rfl (by decide +kernel)
theorem dcX0_listPermutations_54_b0 : decode cX0_listPermutations 54 = .ok (.iload 5, 2) := dw_at cX0_listPermutations_k2 (p := 5) rfl (by decide +kernel)
theorem dcX0_listPermutations_56_b0 : decode cX0_listPermutations 56 = .ok (.ishl, 1) := dw_at cX0_listPermutations_k2 (p := 7) rfl (by decide +kernel)
theorem dcX0_listPermutations_57_b0 : decode cX0_listPermutations 57 = .ok (.ior, 1) := dw_at cX0_listPermutations_k2 (p := 8) rfl (by decide +kernel)
theorem dcX0_listPermutations_58_b0 : decode cX0_listPermutations 58 = .ok (.iconst 1, 1) := dw_at cX0_listPermutations_k2 (p := 9) rfl (by decide +kernel)
theorem dcX0_listPermutations_59_b0 : decode cX0_listPermutations 59 = .ok (.iload 4, 2) := dw_at cX0_listPermutations_k2 (p := 10) rfl (by decide +kernel)
theorem dcX0_listPermutations_61_b0 : decode cX0_listPermutations 61 = .ok (.ishl, 1) := dw_at cX0_listPermutations_k2 (p := 12) rfl (by decide +kernel)
theorem dcX0_listPermutations_62_b0 : decode cX0_listPermutations 62 = .ok (.ior, 1) := dw_at cX0_listPermutations_k2 (p := 13) rfl (by decide +kernel)
theorem dcX0_listPermutations_63_b0 : decode cX0_listPermutations 63 = .ok (.iconst 1, 1) := dw_at cX0_listPermutations_k2 (p := 14) rfl (by decide +kernel)
theorem dcX0_listPermutations_64_b0 : decode cX0_listPermutations 64 = .ok (.iload_n 3, 1) := dw_at cX0_listPermutations_k2 (p := 15) rfl (by decide +kernel)
theorem dcX0_listPermutations_65_b0 : decode cX0_listPermutations 65 = .ok (.ishl, 1) := dw_at cX0_listPermutations_k2 (p := 16) rfl (by decide +kernel)
theorem dcX0_listPermutations_66_b0 : decode cX0_listPermutations 66 = .ok (.ior, 1) := dw_at cX0_listPermutations_k2 (p := 17) rfl (by decide +kernel)
theorem dcX0_listPermutations_67_b0 : decode cX0_listPermutations 67 = .ok (.bipush 15, 2) := dw_at cX0_listPermutations_k2 (p := 18) rfl (by decide +kernel)
theorem dcX0_listPermutations_69_b0 : decode cX0_listPermutations 69 = .ok (.if_icmp .ne 27, 3) := dw_at cX0_listPermutations_k2 (p := 20) rfl (by decide +kernel)
theorem dcX0_listPermutations_72_b0 : decode cX0_listPermutations 72 = .ok (.aload_n 0, 1) := dw_at cX0_listPermutations_k2 (p := 23) rfl (by decide +kernel)
theorem dcX0_listPermutations_73_b0 : decode cX0_listPermutations 73 = .ok (.iload_n 1, 1) := dw_at cX0_listPermutations_k3 (p := 0) rfl (by decide +kernel)
theorem dcX0_listPermutations_74_b0 : decode cX0_listPermutations 74 = .ok (.iload 6, 2) := dw_at cX0_listPermutations_k3 (p := 1) rfl (by decide +kernel)
theorem dcX0_listPermutations_76_b0 : decode cX0_listPermutations 76 = .ok (.iload 5, 2) := dw_at cX0_listPermutations_k3 (p := 3) rfl (by decide +kernel)
theorem dcX0_listPermutations_78_b0 : decode cX0_listPermutations 78 = .ok (.iconst 4, 1) := dw_at cX0_listPermutations_k3 (p := 5) rfl (by decide +kernel)
theorem dcX0_listPermutations_79_b0 : decode cX0_listPermutations 79 = .ok (.ishl, 1) := dw_at cX0_listPermutations_k3 (p := 6) rfl (by decide +kernel)
theorem dcX0_listPermutations_80_b0 : decode cX0_listPermutations 80 = .ok (.ior, 1) := dw_at cX0_listPermutations_k3 (p := 7) rfl (by decide +kernel)
theorem dcX0_listPermutations_81_b0 : decode cX0_listPermutations 81 = .ok (.iload 4, 2) := dw_at cX0_listPermutations_k3 (p := 8) rfl (by decide +kernel)
theorem dcX0_listPermutations_83_b0 : decode cX0_listPermutations 83 = .ok (.bipush 8, 2) := dw_at cX0_listPermutations_k3 (p := 10) rfl (by decide +kernel)
theorem dcX0_listPermutations_85_b0 : decode cX0_listPermutations 85 = .ok (.ishl, 1) := dw_at cX0_listPermutations_k3 (p := 12) rfl (by decide +kernel)
theorem dcX0_listPermutations_86_b0 : decode cX0_listPermutations 86 = .ok (.ior, 1) := dw_at cX0_listPermutations_k3 (p := 13) rfl (by decide +kernel)
theorem dcX0_listPermutations_87_b0 : decode cX0_listPermutations 87 = .ok (.iload_n 3, 1) := dw_at cX0_listPermutations_k3 (p := 14) rfl (by decide +kernel)
theorem dcX0_listPermutations_88_b0 : decode cX0_listPermutations 88 = .ok (.bipush 12, 2) := dw_at cX0_listPermutations_k3 (p := 15) rfl (by decide +kernel)
theorem dcX0_listPermutations_90_b0 : decode cX0_listPermutations 90 = .ok (.ishl, 1) := dw_at cX0_listPermutations_k3 (p := 17) rfl (by decide +kernel)
theorem dcX0_listPermutations_91_b0 : decode cX0_listPermutations 91 = .ok (.ior, 1) := dw_at cX0_listPermutations_k3 (p := 18) rfl (by decide +kernel)
theorem dcX0_listPermutations_92_b0 : decode cX0_listPermutations 92 = .ok (.iastore, 1) := dw_at cX0_listPermutations_k3 (p := 19) rfl (by decide +kernel)
theorem dcX0_listPermutations_93_b0 : decode cX0_listPermutations 93 = .ok (.iinc 1 1, 3) := dw_at cX0_listPermutations_k3 (p := 20) rfl (by decide +kernel)
theorem dcX0_listPermutations_96_b0 : decode cX0_listPermutations 96 = .ok (.iinc 2 1, 3) := dw_at cX0_listPermutations_k3 (p := 23) rfl (by decide +kernel)
theorem dcX0_listPermutations_99_b0 : decode cX0_listPermutations 99 = .ok (.goto (-95), 3) := dw_at cX0_listPermutations_k3 (p := 26) rfl (by decide +kernel)
theorem dcX0_listPermutations_102_b0 : decode cX0_listPermutations 102 = .ok (.return_, 1) := dw_at cX0_listPermutations_k3 (p := 29) rfl (by decide +kernel)
def cm_X0_listPermutations_0_b0 (K : Nat) (go : Nat → Int32 → Int32 → Int32 → Int32 → Int32 → Int32 → Nat → ow_MS → Option ow_MS) (x1 : Int32) (x2 : Int32) (x3 : Int32) (x4 : Int32) (x5 : Int32) (x6 : Int32) (r0 : Nat) (z : ow_MS) : Option ow_MS :=
 go 1 0 0 0 0 0 0 r0 z
def cm_X0_listPermutations_1_b0 (K : Nat) (go : Nat → Int32 → Int32 → Int32 → Int32 → Int32 → Int32 → Nat → ow_MS → Option ow_MS) (x1 : Int32) (x2 : Int32) (x3 : Int32) (x4 : Int32) (x5 : Int32) (x6 : Int32) (r0 : Nat) (z : ow_MS) : Option ow_MS :=
 (if 256 ≤ x2 then some z
 else (if 24 ≤ x1 then some z
 else (if (((((1 : Int32) <<< (((3 - (x2 &&& 3)) : Int32) &&& 31)) ||| ((1 : Int32) <<< (((3 - (((x2 : Int32) >>> ((2 : Int32) &&& 31)) &&& 3)) : Int32) &&& 31))) ||| ((1 : Int32) <<< (((3 - (((x2 : Int32) >>> ((4 : Int32) &&& 31)) &&& 3)) : Int32) &&& 31))) ||| ((1 : Int32) <<< (((3 - ((x2 : Int32) >>> ((6 : Int32) &&& 31))) : Int32) &&& 31))) = 15 then ctI cT0 z r0 x1 ((((3 - (x2 &&& 3)) ||| (((3 - (((x2 : Int32) >>> ((2 : Int32) &&& 31)) &&& 3)) : Int32) <<< ((4 : Int32) &&& 31))) ||| (((3 - (((x2 : Int32) >>> ((4 : Int32) &&& 31)) &&& 3)) : Int32) <<< ((8 : Int32) &&& 31))) ||| (((3 - ((x2 : Int32) >>> ((6 : Int32) &&& 31))) : Int32) <<< ((12 : Int32) &&& 31))) fun z1 => go 2 (x1 + 1) x2 (3 - ((x2 : Int32) >>> ((6 : Int32) &&& 31))) (3 - (((x2 : Int32) >>> ((4 : Int32) &&& 31)) &&& 3)) (3 - (((x2 : Int32) >>> ((2 : Int32) &&& 31)) &&& 3)) (3 - (x2 &&& 3)) r0 z1
 else go 2 x1 x2 (3 - ((x2 : Int32) >>> ((6 : Int32) &&& 31))) (3 - (((x2 : Int32) >>> ((4 : Int32) &&& 31)) &&& 3)) (3 - (((x2 : Int32) >>> ((2 : Int32) &&& 31)) &&& 3)) (3 - (x2 &&& 3)) r0 z)))
def cm_X0_listPermutations_2_b0 (K : Nat) (go : Nat → Int32 → Int32 → Int32 → Int32 → Int32 → Int32 → Nat → ow_MS → Option ow_MS) (x1 : Int32) (x2 : Int32) (x3 : Int32) (x4 : Int32) (x5 : Int32) (x6 : Int32) (r0 : Nat) (z : ow_MS) : Option ow_MS :=
 go 1 x1 (x2 + 1) 0 0 0 0 r0 z
def cb_X0_listPermutations_b0 (K : Nat) (go : Nat → Int32 → Int32 → Int32 → Int32 → Int32 → Int32 → Nat → ow_MS → Option ow_MS) (L : Nat) (x1 : Int32) (x2 : Int32) (x3 : Int32) (x4 : Int32) (x5 : Int32) (x6 : Int32) (r0 : Nat) (z : ow_MS) : Option ow_MS := match L with
  | 0 => cm_X0_listPermutations_0_b0 K go x1 x2 x3 x4 x5 x6 r0 z
  | 1 => cm_X0_listPermutations_1_b0 K go x1 x2 x3 x4 x5 x6 r0 z
  | 2 => cm_X0_listPermutations_2_b0 K go x1 x2 x3 x4 x5 x6 r0 z
  | _ => none
def c_X0_listPermutations_b0 (K : Nat) : Nat → Nat → Int32 → Int32 → Int32 → Int32 → Int32 → Int32 → Nat → ow_MS → Option ow_MS
  | 0 => fun _ _ _ _ _ _ _ _ _ => none
  | k + 1 => cb_X0_listPermutations_b0 K (c_X0_listPermutations_b0 K k)
def ce_X0_listPermutations_b0 (K : Nat) (r0 : Nat) (z : ow_MS) : Option ow_MS := c_X0_listPermutations_b0 K K 0 0 0 0 0 0 0 r0 z
abbrev wc_X0_listPermutations_b0 : List Cond := .code yX0_listPermutations cX0_listPermutations 7 none :: wC_b0
theorem cdd_X0_listPermutations_b0 : yX0_listPermutations.cls ≠ "java/lang/invoke/MethodHandle" ∧ yX0_listPermutations.cls ≠ "java/lang/invoke/VarHandle" ∧ (parseMethodDescriptor yX0_listPermutations.desc).map (fun d => d.parameters.length) = some 1 := by decide +kernel
set_option maxHeartbeats 4000000 in
set_option maxRecDepth 100000 in
theorem kc_X0_listPermutations_b0 (l : Launch) (D : va_G) (q : Nat → ClassId) (u : Nat → Nat) (hU0 : tw_inj cT0 u) (K : Nat) (r0 : Nat) (hr0 : tw_in cT0 r0 0) (z z1 : ow_MS) (hq : ce_X0_listPermutations_b0 K r0 z = some z1) : Met l yX0_listPermutations wc_X0_listPermutations_b0 ({ frames := 0, cells := 0, slots := 0, locals := 0 } : Room) (va_Pc [.ref (u r0)] (cw_pre_b0 D q u z)) (va_Qv (fun (_ : Unit) => True) (fun _ t => va_P D vwCl (uw cT0 q u z1) t.heap) (tw_A cT0 u)) 0 0 (tw_A cT0 u) := by
  refine Met.ofW (cc := cX0_listPermutations) (maxL := 7) (ret := none) (by decide) rfl ?_
  intro p e s m args below meth c s₁ B hml hv
  obtain ⟨rfl, hP, hK⟩ := hv
  have hx := B.exec
  have hb := B.bytes
  have hr := B.returns
  have hts := atoms_spec (ws := wc_X0_listPermutations_b0) B.pre
  have hT : ∀ w ∈ wC_b0, w.before ([.ref (u r0)] : List Value).toArray s = true := fun w h => hts w (List.mem_cons_of_mem _ h)
  have hown : s.vm.findClass RX0 = some m.cls := findClass_of_methodNamed B.named
  have hlocks := B.notSynchronized
  have hU : uw_inj cT0 u (tw_A cT0 u) := ⟨hU0, fun h hh => ⟨h, hh, rfl⟩⟩
  have hM : uw_M D vwCl cT0 q (tw_A cT0 u) s.heap u z s.heap [] := ⟨hP, va_S.rf⟩
  have hl := lv_entry ([.ref (u r0)]) (n := 7) (Nat.le_of_ble_eq_true rfl)
  rw [lg_entry_eq]
  generalize (lg_sl ([.ref (u r0)]) ++ List.replicate (7 - (lg_sl ([.ref (u r0)])).length) Slot.unset).toArray = ls at hl ⊢
  have hl : lv_has ls 7 [(0, .ref (u r0))] := hl
  refine ow_named (fun QQ hQQ => ?_)
  generalize ([.ref (u r0)] : List Value).toArray = args at hts hT hQQ ⊢
  have key : ∀ k : Nat, (∀ (x1 : Int32) (x2 : Int32) (x3 : Int32) (x4 : Int32) (x5 : Int32) (x6 : Int32) (r0 : Nat) (z : ow_MS) (H : Heap) (locs : List Loc) (ls : Array Slot), tw_in cT0 r0 0 → uw_M D vwCl cT0 q (tw_A cT0 u) s.heap u z H locs → lv_has ls 7 [(0, .ref (u r0))] → c_X0_listPermutations_b0 K k 0 x1 x2 x3 x4 x5 x6 r0 z = some z1 → W p l e ({ frames := 0, cells := 0, slots := 0, locals := 0 } : Room) s m args below meth c H locs 0 0 QQ (F0 m 0 ls [])) ∧ (∀ (x1 : Int32) (x2 : Int32) (x3 : Int32) (x4 : Int32) (x5 : Int32) (x6 : Int32) (r0 : Nat) (z : ow_MS) (H : Heap) (locs : List Loc) (ls : Array Slot), tw_in cT0 r0 0 → uw_M D vwCl cT0 q (tw_A cT0 u) s.heap u z H locs → lv_has ls 7 [(0, .ref (u r0)), (1, .int x1), (2, .int x2)] → c_X0_listPermutations_b0 K k 1 x1 x2 x3 x4 x5 x6 r0 z = some z1 → W p l e ({ frames := 0, cells := 0, slots := 0, locals := 0 } : Room) s m args below meth c H locs 0 0 QQ (F0 m 4 ls [])) ∧ (∀ (x1 : Int32) (x2 : Int32) (x3 : Int32) (x4 : Int32) (x5 : Int32) (x6 : Int32) (r0 : Nat) (z : ow_MS) (H : Heap) (locs : List Loc) (ls : Array Slot), tw_in cT0 r0 0 → uw_M D vwCl cT0 q (tw_A cT0 u) s.heap u z H locs → lv_has ls 7 [(0, .ref (u r0)), (1, .int x1), (2, .int x2), (3, .int x3), (4, .int x4), (5, .int x5), (6, .int x6)] → c_X0_listPermutations_b0 K k 2 x1 x2 x3 x4 x5 x6 r0 z = some z1 → W p l e ({ frames := 0, cells := 0, slots := 0, locals := 0 } : Room) s m args below meth c H locs 0 0 QQ (F0 m 96 ls [])) := by
    intro k
    induction k with
    | zero => exact ⟨fun _ _ _ _ _ _ _ _ _ _ _ _ _ _ hq => tw_no hq, fun _ _ _ _ _ _ _ _ _ _ _ _ _ _ hq => tw_no hq, fun _ _ _ _ _ _ _ _ _ _ _ _ _ _ hq => tw_no hq⟩
    | succ k ih =>
      obtain ⟨ih_0, ih_1, ih_2⟩ := ih
      refine ⟨?_, ?_, ?_⟩
      · intro x1 x2 x3 x4 x5 x6 r0 z H locs ls hr0 hM hl hq
        have hq : cm_X0_listPermutations_0_b0 K (c_X0_listPermutations_b0 K k) x1 x2 x3 x4 x5 x6 r0 z = some z1 := hq
        unfold cm_X0_listPermutations_0_b0 at hq
        refine lv_iconst (v := 0) hx hb dcX0_listPermutations_0_b0 (by decide) ?_
        refine lv_istore_n (lv' := [(1, .int 0), (0, .ref (u r0))]) hx hb dcX0_listPermutations_1_b0 rfl hl (by decide) rfl (fun ls hl => ?_)
        refine lv_iconst (v := 0) hx hb dcX0_listPermutations_2_b0 (by decide) ?_
        refine lv_istore_n (lv' := [(2, .int 0), (1, .int 0), (0, .ref (u r0))]) hx hb dcX0_listPermutations_3_b0 rfl hl (by decide) rfl (fun ls hl => ?_)
        exact ih_1 0 0 0 0 0 0 r0 z H locs ls hr0 hM (lv_sub hl [2, 1, 0] rfl) hq
      · intro x1 x2 x3 x4 x5 x6 r0 z H locs ls hr0 hM hl hq
        have hq : cm_X0_listPermutations_1_b0 K (c_X0_listPermutations_b0 K k) x1 x2 x3 x4 x5 x6 r0 z = some z1 := hq
        unfold cm_X0_listPermutations_1_b0 at hq
        refine lv_iload_n hx hb dcX0_listPermutations_4_b0 rfl (lv_at hl 2 rfl) ?_
        refine lv_sipush (v := 256) hx hb dcX0_listPermutations_5_b0 (by decide) ?_
        refine lv_icmp_ge (tgt := 102) hx hb dcX0_listPermutations_8_b0 (by decide) (fun hc => ?_) (fun hc => ?_)
        · have hq := tw_it hq hc
          exact cw_vret_b0 hx hb hr hlocks hM hq hQQ dcX0_listPermutations_102_b0
        · have hq := tw_if hq hc
          refine lv_iload_n hx hb dcX0_listPermutations_11_b0 rfl (lv_at hl 1 rfl) ?_
          refine lv_bipush (v := 24) hx hb dcX0_listPermutations_12_b0 (by decide) ?_
          refine lv_icmp_ge (tgt := 102) hx hb dcX0_listPermutations_14_b0 (by decide) (fun hc => ?_) (fun hc => ?_)
          · have hq := tw_it hq hc
            exact cw_vret_b0 hx hb hr hlocks hM hq hQQ dcX0_listPermutations_102_b0
          · have hq := tw_if hq hc
            refine lv_iconst (v := 3) hx hb dcX0_listPermutations_17_b0 (by decide) ?_
            refine lv_iload_n hx hb dcX0_listPermutations_18_b0 rfl (lv_at hl 2 rfl) ?_
            refine lv_bipush (v := 6) hx hb dcX0_listPermutations_19_b0 (by decide) ?_
            refine lv_ishr hx hb dcX0_listPermutations_21_b0 ?_
            refine lv_isub hx hb dcX0_listPermutations_22_b0 ?_
            refine lv_istore_n (lv' := [(3, .int (3 - ((x2 : Int32) >>> ((6 : Int32) &&& 31)))), (0, .ref (u r0)), (1, .int x1), (2, .int x2)]) hx hb dcX0_listPermutations_23_b0 rfl hl (by decide) rfl (fun ls hl => ?_)
            refine lv_iconst (v := 3) hx hb dcX0_listPermutations_24_b0 (by decide) ?_
            refine lv_iload_n hx hb dcX0_listPermutations_25_b0 rfl (lv_at hl 3 rfl) ?_
            refine lv_iconst (v := 4) hx hb dcX0_listPermutations_26_b0 (by decide) ?_
            refine lv_ishr hx hb dcX0_listPermutations_27_b0 ?_
            refine lv_iconst (v := 3) hx hb dcX0_listPermutations_28_b0 (by decide) ?_
            refine lv_iand hx hb dcX0_listPermutations_29_b0 ?_
            refine lv_isub hx hb dcX0_listPermutations_30_b0 ?_
            refine lv_istore (lv' := [(4, .int (3 - (((x2 : Int32) >>> ((4 : Int32) &&& 31)) &&& 3))), (3, .int (3 - ((x2 : Int32) >>> ((6 : Int32) &&& 31)))), (0, .ref (u r0)), (1, .int x1), (2, .int x2)]) hx hb dcX0_listPermutations_31_b0 hl (by decide) rfl (fun ls hl => ?_)
            refine lv_iconst (v := 3) hx hb dcX0_listPermutations_33_b0 (by decide) ?_
            refine lv_iload_n hx hb dcX0_listPermutations_34_b0 rfl (lv_at hl 4 rfl) ?_
            refine lv_iconst (v := 2) hx hb dcX0_listPermutations_35_b0 (by decide) ?_
            refine lv_ishr hx hb dcX0_listPermutations_36_b0 ?_
            refine lv_iconst (v := 3) hx hb dcX0_listPermutations_37_b0 (by decide) ?_
            refine lv_iand hx hb dcX0_listPermutations_38_b0 ?_
            refine lv_isub hx hb dcX0_listPermutations_39_b0 ?_
            refine lv_istore (lv' := [(5, .int (3 - (((x2 : Int32) >>> ((2 : Int32) &&& 31)) &&& 3))), (4, .int (3 - (((x2 : Int32) >>> ((4 : Int32) &&& 31)) &&& 3))), (3, .int (3 - ((x2 : Int32) >>> ((6 : Int32) &&& 31)))), (0, .ref (u r0)), (1, .int x1), (2, .int x2)]) hx hb dcX0_listPermutations_40_b0 hl (by decide) rfl (fun ls hl => ?_)
            refine lv_iconst (v := 3) hx hb dcX0_listPermutations_42_b0 (by decide) ?_
            refine lv_iload_n hx hb dcX0_listPermutations_43_b0 rfl (lv_at hl 5 rfl) ?_
            refine lv_iconst (v := 3) hx hb dcX0_listPermutations_44_b0 (by decide) ?_
            refine lv_iand hx hb dcX0_listPermutations_45_b0 ?_
            refine lv_isub hx hb dcX0_listPermutations_46_b0 ?_
            refine lv_istore (lv' := [(6, .int (3 - (x2 &&& 3))), (5, .int (3 - (((x2 : Int32) >>> ((2 : Int32) &&& 31)) &&& 3))), (4, .int (3 - (((x2 : Int32) >>> ((4 : Int32) &&& 31)) &&& 3))), (3, .int (3 - ((x2 : Int32) >>> ((6 : Int32) &&& 31)))), (0, .ref (u r0)), (1, .int x1), (2, .int x2)]) hx hb dcX0_listPermutations_47_b0 hl (by decide) rfl (fun ls hl => ?_)
            refine lv_iconst (v := 1) hx hb dcX0_listPermutations_49_b0 (by decide) ?_
            refine lv_iload hx hb dcX0_listPermutations_50_b0 (lv_at hl 0 rfl) ?_
            refine lv_ishl hx hb dcX0_listPermutations_52_b0 ?_
            refine lv_iconst (v := 1) hx hb dcX0_listPermutations_53_b0 (by decide) ?_
            refine lv_iload hx hb dcX0_listPermutations_54_b0 (lv_at hl 1 rfl) ?_
            refine lv_ishl hx hb dcX0_listPermutations_56_b0 ?_
            refine lv_ior hx hb dcX0_listPermutations_57_b0 ?_
            refine lv_iconst (v := 1) hx hb dcX0_listPermutations_58_b0 (by decide) ?_
            refine lv_iload hx hb dcX0_listPermutations_59_b0 (lv_at hl 2 rfl) ?_
            refine lv_ishl hx hb dcX0_listPermutations_61_b0 ?_
            refine lv_ior hx hb dcX0_listPermutations_62_b0 ?_
            refine lv_iconst (v := 1) hx hb dcX0_listPermutations_63_b0 (by decide) ?_
            refine lv_iload_n hx hb dcX0_listPermutations_64_b0 rfl (lv_at hl 3 rfl) ?_
            refine lv_ishl hx hb dcX0_listPermutations_65_b0 ?_
            refine lv_ior hx hb dcX0_listPermutations_66_b0 ?_
            refine lv_bipush (v := 15) hx hb dcX0_listPermutations_67_b0 (by decide) ?_
            refine lv_icmp_ne (tgt := 96) hx hb dcX0_listPermutations_69_b0 (by decide) (fun hc => ?_) (fun hc => ?_)
            · have hq := tw_if hq hc
              exact ih_2 x1 x2 (3 - ((x2 : Int32) >>> ((6 : Int32) &&& 31))) (3 - (((x2 : Int32) >>> ((4 : Int32) &&& 31)) &&& 3)) (3 - (((x2 : Int32) >>> ((2 : Int32) &&& 31)) &&& 3)) (3 - (x2 &&& 3)) r0 z H locs ls hr0 hM (lv_sub hl [4, 5, 6, 3, 2, 1, 0] rfl) hq
            · have hq := tw_it hq hc
              refine lv_aload_n hx hb dcX0_listPermutations_72_b0 rfl (lv_at hl 4 rfl) ?_
              refine lv_iload_n hx hb dcX0_listPermutations_73_b0 rfl (lv_at hl 5 rfl) ?_
              refine lv_iload hx hb dcX0_listPermutations_74_b0 (lv_at hl 0 rfl) ?_
              refine lv_iload hx hb dcX0_listPermutations_76_b0 (lv_at hl 1 rfl) ?_
              refine lv_iconst (v := 4) hx hb dcX0_listPermutations_78_b0 (by decide) ?_
              refine lv_ishl hx hb dcX0_listPermutations_79_b0 ?_
              refine lv_ior hx hb dcX0_listPermutations_80_b0 ?_
              refine lv_iload hx hb dcX0_listPermutations_81_b0 (lv_at hl 2 rfl) ?_
              refine lv_bipush (v := 8) hx hb dcX0_listPermutations_83_b0 (by decide) ?_
              refine lv_ishl hx hb dcX0_listPermutations_85_b0 ?_
              refine lv_ior hx hb dcX0_listPermutations_86_b0 ?_
              refine lv_iload_n hx hb dcX0_listPermutations_87_b0 rfl (lv_at hl 3 rfl) ?_
              refine lv_bipush (v := 12) hx hb dcX0_listPermutations_88_b0 (by decide) ?_
              refine lv_ishl hx hb dcX0_listPermutations_90_b0 ?_
              refine lv_ior hx hb dcX0_listPermutations_91_b0 ?_
              refine uw_iast cT0_ok hU hx hb hK hM hr0 hq dcX0_listPermutations_92_b0 (fun z1 H locs hM hq => ?_)
              refine lv_iinc (v := (x1 + 1)) (lv' := [(1, .int (x1 + 1)), (6, .int (3 - (x2 &&& 3))), (5, .int (3 - (((x2 : Int32) >>> ((2 : Int32) &&& 31)) &&& 3))), (4, .int (3 - (((x2 : Int32) >>> ((4 : Int32) &&& 31)) &&& 3))), (3, .int (3 - ((x2 : Int32) >>> ((6 : Int32) &&& 31)))), (0, .ref (u r0)), (2, .int x2)]) hx hb dcX0_listPermutations_93_b0 hl (k := 5) rfl rfl (by decide) rfl (fun ls hl => ?_)
              exact ih_2 (x1 + 1) x2 (3 - ((x2 : Int32) >>> ((6 : Int32) &&& 31))) (3 - (((x2 : Int32) >>> ((4 : Int32) &&& 31)) &&& 3)) (3 - (((x2 : Int32) >>> ((2 : Int32) &&& 31)) &&& 3)) (3 - (x2 &&& 3)) r0 z1 H locs ls hr0 hM (lv_sub hl [5, 0, 6, 4, 3, 2, 1] rfl) hq
      · intro x1 x2 x3 x4 x5 x6 r0 z H locs ls hr0 hM hl hq
        have hq : cm_X0_listPermutations_2_b0 K (c_X0_listPermutations_b0 K k) x1 x2 x3 x4 x5 x6 r0 z = some z1 := hq
        unfold cm_X0_listPermutations_2_b0 at hq
        refine lv_iinc (v := (x2 + 1)) (lv' := [(2, .int (x2 + 1)), (0, .ref (u r0)), (1, .int x1), (3, .int x3), (4, .int x4), (5, .int x5), (6, .int x6)]) hx hb dcX0_listPermutations_96_b0 hl (k := 2) rfl rfl (by decide) rfl (fun ls hl => ?_)
        refine lv_goto (tgt := 4) hx hb dcX0_listPermutations_99_b0 (by decide) ?_
        exact ih_1 x1 (x2 + 1) 0 0 0 0 r0 z H locs ls hr0 hM (lv_sub hl [1, 2, 0] rfl) hq
  exact (key K).1 0 0 0 0 0 0 r0 z s.heap [] ls hr0 hM (lv_sub hl [0] rfl) hq
def cm_X0i_0_b0 (K : Nat) (go : Nat → Int32 → Int32 → Int32 → Int32 → Nat → Nat → ow_MS → Option ow_MS) (x2 : Int32) (x3 : Int32) (x4 : Int32) (x5 : Int32) (r0 : Nat) (r1 : Nat) (z : ow_MS) : Option ow_MS :=
 cs0 (ce_X0_listPermutations_b0 K r1 z) fun z1 => go 1 0 0 0 0 r0 r1 z1
def cm_X0i_1_b0 (K : Nat) (go : Nat → Int32 → Int32 → Int32 → Int32 → Nat → Nat → ow_MS → Option ow_MS) (x2 : Int32) (x3 : Int32) (x4 : Int32) (x5 : Int32) (r0 : Nat) (r1 : Nat) (z : ow_MS) : Option ow_MS :=
 (if 24 ≤ x2 then some z
 else go 2 x2 0 0 0 r0 r1 z)
def cm_X0i_2_b0 (K : Nat) (go : Nat → Int32 → Int32 → Int32 → Int32 → Nat → Nat → ow_MS → Option ow_MS) (x2 : Int32) (x3 : Int32) (x4 : Int32) (x5 : Int32) (r0 : Nat) (r1 : Nat) (z : ow_MS) : Option ow_MS :=
 (if 24 ≤ x3 then crI cT0 z r1 x2 fun v2 => cs1 (ce_X5_invert_b0 K v2 4 z) fun v4 z3 => cs1 (ce_X0_indexOf_b0 K r1 v4 z3) fun v6 z5 => ctB cT0 z5 (r0 + 7) x2 v6.toInt8.toInt32 fun z7 => go 1 (x2 + 1) 0 0 0 r0 r1 z7
 else go 3 x2 x3 0 0 r0 r1 z)
def cm_X0i_3_b0 (K : Nat) (go : Nat → Int32 → Int32 → Int32 → Int32 → Nat → Nat → ow_MS → Option ow_MS) (x2 : Int32) (x3 : Int32) (x4 : Int32) (x5 : Int32) (r0 : Nat) (r1 : Nat) (z : ow_MS) : Option ow_MS :=
 (if 4 ≤ x5 then cs1 (ce_X0_indexOf_b0 K r1 x4 z) fun v9 z8 => ctB cT0 z8 (r0 + 6) ((24 * x2) + x3) v9.toInt8.toInt32 fun z10 => go 2 x2 (x3 + 1) 0 0 r0 r1 z10
 else crI cT0 z r1 x2 fun v11 => cs1 (ce_X5_image_b0 K v11 x5 z) fun v13 z12 => crI cT0 z12 r1 x2 fun v14 => crI cT0 z12 r1 x3 fun v15 => cs1 (ce_X5_image_b0 K v15 x5 z12) fun v17 z16 => cs1 (ce_X5_image_b0 K v14 v17 z16) fun v19 z18 => go 3 x2 x3 (x4 ||| ((v19 : Int32) <<< (((4 * v13) : Int32) &&& 31))) (x5 + 1) r0 r1 z18)
def cb_X0i_b0 (K : Nat) (go : Nat → Int32 → Int32 → Int32 → Int32 → Nat → Nat → ow_MS → Option ow_MS) (L : Nat) (x2 : Int32) (x3 : Int32) (x4 : Int32) (x5 : Int32) (r0 : Nat) (r1 : Nat) (z : ow_MS) : Option ow_MS := match L with
  | 0 => cm_X0i_0_b0 K go x2 x3 x4 x5 r0 r1 z
  | 1 => cm_X0i_1_b0 K go x2 x3 x4 x5 r0 r1 z
  | 2 => cm_X0i_2_b0 K go x2 x3 x4 x5 r0 r1 z
  | 3 => cm_X0i_3_b0 K go x2 x3 x4 x5 r0 r1 z
  | _ => none
def c_X0i_b0 (K : Nat) : Nat → Nat → Int32 → Int32 → Int32 → Int32 → Nat → Nat → ow_MS → Option ow_MS
  | 0 => fun _ _ _ _ _ _ _ _ => none
  | k + 1 => cb_X0i_b0 K (c_X0i_b0 K k)
def ce_X0i_b0 (K : Nat) (r0 : Nat) (r1 : Nat) (z : ow_MS) : Option ow_MS := c_X0i_b0 K K 0 0 0 0 0 r0 r1 z
set_option maxHeartbeats 4000000 in
set_option maxRecDepth 100000 in
theorem kb_X0i_b0 {p : Program} {l : Launch} {e : Env} {s : State} {m : MethodId} {args : Array Value} {below : List Frame} {meth : Method} {c : Code} {QQ : State → Prop} {A : Nat → Prop} {D : va_G} {q : Nat → ClassId} {u : Nat → Nat} {c0t : Cond}  (hU : uw_inj cT0 u A) (hx : p.tables.exec = Jvm.exec) (hb : c.code = cX0_init) (hml : c.maxLocals = 7) (hown : s.vm.findClass RX0 = some m.cls) (hts : ∀ w ∈ c0t :: wC_b0, w.before args s = true) (hK : va_K D vwCl (uw_T q RX7) s) (K : Nat) (r0 : Nat) (r1 : Nat) (hr0 : cw_X0_b0 r0) (hr1 : tw_in cT0 r1 0) (z z1 : ow_MS) (hq : ce_X0i_b0 K r0 r1 z = some z1) (H : Heap) (locs : List Loc) (ls : Array Slot) (hM : uw_M D vwCl cT0 q A s.heap u z H locs) (hl : lv_has ls 7 [(0, .ref (u r0)), (1, .ref (u r1))]) (kk : ∀ (H : Heap) (locs : List Loc) (ls : Array Slot), uw_M D vwCl cT0 q A s.heap u z1 H locs → lv_has ls 7 [(0, .ref (u r0)), (1, .ref (u r1))] → W p l e RI0 s m args below meth c H locs 25 1116 QQ (F0 m 230 ls [])) : W p l e RI0 s m args below meth c H locs 25 1116 QQ (F0 m 110 ls []) := by
  have hT : ∀ w ∈ wC_b0, w.before args s = true := fun w h => hts w (List.mem_cons_of_mem _ h)
  have key : ∀ k : Nat, (∀ (x2 : Int32) (x3 : Int32) (x4 : Int32) (x5 : Int32) (r0 : Nat) (r1 : Nat) (z : ow_MS) (H : Heap) (locs : List Loc) (ls : Array Slot), cw_X0_b0 r0 → tw_in cT0 r1 0 → (∀ (H : Heap) (locs : List Loc) (ls : Array Slot), uw_M D vwCl cT0 q A s.heap u z1 H locs → lv_has ls 7 [(0, .ref (u r0)), (1, .ref (u r1))] → W p l e RI0 s m args below meth c H locs 25 1116 QQ (F0 m 230 ls [])) → uw_M D vwCl cT0 q A s.heap u z H locs → lv_has ls 7 [(0, .ref (u r0)), (1, .ref (u r1))] → c_X0i_b0 K k 0 x2 x3 x4 x5 r0 r1 z = some z1 → W p l e RI0 s m args below meth c H locs 25 1116 QQ (F0 m 110 ls [])) ∧ (∀ (x2 : Int32) (x3 : Int32) (x4 : Int32) (x5 : Int32) (r0 : Nat) (r1 : Nat) (z : ow_MS) (H : Heap) (locs : List Loc) (ls : Array Slot), cw_X0_b0 r0 → tw_in cT0 r1 0 → (∀ (H : Heap) (locs : List Loc) (ls : Array Slot), uw_M D vwCl cT0 q A s.heap u z1 H locs → lv_has ls 7 [(0, .ref (u r0)), (1, .ref (u r1))] → W p l e RI0 s m args below meth c H locs 25 1116 QQ (F0 m 230 ls [])) → uw_M D vwCl cT0 q A s.heap u z H locs → lv_has ls 7 [(0, .ref (u r0)), (1, .ref (u r1)), (2, .int x2)] → c_X0i_b0 K k 1 x2 x3 x4 x5 r0 r1 z = some z1 → W p l e RI0 s m args below meth c H locs 25 1116 QQ (F0 m 116 ls [])) ∧ (∀ (x2 : Int32) (x3 : Int32) (x4 : Int32) (x5 : Int32) (r0 : Nat) (r1 : Nat) (z : ow_MS) (H : Heap) (locs : List Loc) (ls : Array Slot), cw_X0_b0 r0 → tw_in cT0 r1 0 → (∀ (H : Heap) (locs : List Loc) (ls : Array Slot), uw_M D vwCl cT0 q A s.heap u z1 H locs → lv_has ls 7 [(0, .ref (u r0)), (1, .ref (u r1))] → W p l e RI0 s m args below meth c H locs 25 1116 QQ (F0 m 230 ls [])) → uw_M D vwCl cT0 q A s.heap u z H locs → lv_has ls 7 [(0, .ref (u r0)), (1, .ref (u r1)), (2, .int x2), (3, .int x3)] → c_X0i_b0 K k 2 x2 x3 x4 x5 r0 r1 z = some z1 → W p l e RI0 s m args below meth c H locs 25 1116 QQ (F0 m 124 ls [])) ∧ (∀ (x2 : Int32) (x3 : Int32) (x4 : Int32) (x5 : Int32) (r0 : Nat) (r1 : Nat) (z : ow_MS) (H : Heap) (locs : List Loc) (ls : Array Slot), cw_X0_b0 r0 → tw_in cT0 r1 0 → (∀ (H : Heap) (locs : List Loc) (ls : Array Slot), uw_M D vwCl cT0 q A s.heap u z1 H locs → lv_has ls 7 [(0, .ref (u r0)), (1, .ref (u r1))] → W p l e RI0 s m args below meth c H locs 25 1116 QQ (F0 m 230 ls [])) → uw_M D vwCl cT0 q A s.heap u z H locs → lv_has ls 7 [(0, .ref (u r0)), (1, .ref (u r1)), (2, .int x2), (3, .int x3), (4, .int x4), (5, .int x5)] → c_X0i_b0 K k 3 x2 x3 x4 x5 r0 r1 z = some z1 → W p l e RI0 s m args below meth c H locs 25 1116 QQ (F0 m 136 ls [])) := by
    intro k
    induction k with
    | zero => exact ⟨fun _ _ _ _ _ _ _ _ _ _ _ _ _ _ _ hq => tw_no hq, fun _ _ _ _ _ _ _ _ _ _ _ _ _ _ _ hq => tw_no hq, fun _ _ _ _ _ _ _ _ _ _ _ _ _ _ _ hq => tw_no hq, fun _ _ _ _ _ _ _ _ _ _ _ _ _ _ _ hq => tw_no hq⟩
    | succ k ih =>
      obtain ⟨ih_0, ih_1, ih_2, ih_3⟩ := ih
      refine ⟨?_, ?_, ?_, ?_⟩
      · intro x2 x3 x4 x5 r0 r1 z H locs ls hr0 hr1 kk hM hl hq
        have hq : cm_X0i_0_b0 K (c_X0i_b0 K k) x2 x3 x4 x5 r0 r1 z = some z1 := hq
        unfold cm_X0i_0_b0 at hq
        refine lv_aload_n hx hb dX0_init_110 rfl (lv_at hl 1 rfl) ?_
        obtain ⟨z1, hcq, hq⟩ := tw_cl0 hq
        refine uw_calv hU hM (va_runS (As := [.ref (u r1)]) (rest := []) ⟨hx, hb, hml, hown, hts⟩ (kc_X0_listPermutations_b0 l D q u hU.1 K r1 hr1 z z1 hcq) (va_cwS 1 hts (tw_gS wC_good_b0 xq_22_b0 xq_23_b0 xq_24_b0 xq_6_b0) rfl rfl rfl cdd_X0_listPermutations_b0 ⟨(Nat.le_of_ble_eq_true rfl), (Nat.le_of_ble_eq_true rfl)⟩) (cw_preS_b0 hK hM) rfl rfl hl.1 rfl (lv_room (Nat.le_of_ble_eq_true rfl)) dX0_init_111 ⟨(Nat.le_of_ble_eq_true rfl), (Nat.le_of_ble_eq_true rfl)⟩) (fun H locs hM => ?_)
        refine lv_iconst (v := 0) hx hb dX0_init_114 (by decide) ?_
        refine lv_istore_n (lv' := [(2, .int 0), (0, .ref (u r0)), (1, .ref (u r1))]) hx hb dX0_init_115 rfl hl (by decide) rfl (fun ls hl => ?_)
        exact ih_1 0 0 0 0 r0 r1 z1 H locs ls hr0 hr1 kk hM (lv_sub hl [1, 2, 0] rfl) hq
      · intro x2 x3 x4 x5 r0 r1 z H locs ls hr0 hr1 kk hM hl hq
        have hq : cm_X0i_1_b0 K (c_X0i_b0 K k) x2 x3 x4 x5 r0 r1 z = some z1 := hq
        unfold cm_X0i_1_b0 at hq
        refine lv_iload_n hx hb dX0_init_116 rfl (lv_at hl 2 rfl) ?_
        refine lv_bipush (v := 24) hx hb dX0_init_117 (by decide) ?_
        refine lv_icmp_ge (tgt := 230) hx hb dX0_init_119 (by decide) (fun hc => ?_) (fun hc => ?_)
        · have hq := tw_it hq hc
          rw [Option.some.inj hq] at hM
          exact kk H locs ls hM (lv_sub hl [0, 1] rfl)
        · have hq := tw_if hq hc
          refine lv_iconst (v := 0) hx hb dX0_init_122 (by decide) ?_
          refine lv_istore_n (lv' := [(3, .int 0), (0, .ref (u r0)), (1, .ref (u r1)), (2, .int x2)]) hx hb dX0_init_123 rfl hl (by decide) rfl (fun ls hl => ?_)
          exact ih_2 x2 0 0 0 r0 r1 z H locs ls hr0 hr1 kk hM (lv_sub hl [1, 2, 3, 0] rfl) hq
      · intro x2 x3 x4 x5 r0 r1 z H locs ls hr0 hr1 kk hM hl hq
        have hq : cm_X0i_2_b0 K (c_X0i_b0 K k) x2 x3 x4 x5 r0 r1 z = some z1 := hq
        unfold cm_X0i_2_b0 at hq
        refine lv_iload_n hx hb dX0_init_124 rfl (lv_at hl 3 rfl) ?_
        refine lv_bipush (v := 24) hx hb dX0_init_125 (by decide) ?_
        refine lv_icmp_ge (tgt := 206) hx hb dX0_init_127 (by decide) (fun hc => ?_) (fun hc => ?_)
        · have hq := tw_it hq hc
          refine lv_aload_n hx hb dX0_init_206 rfl (lv_at hl 0 rfl) ?_
          refine vgX0_28_b0 hx hb hT hown hK hM hr0 dX0_init_207 ?_
          refine lv_iload_n hx hb dX0_init_210 rfl (lv_at hl 2 rfl) ?_
          refine lv_aload_n hx hb dX0_init_211 rfl (lv_at hl 1 rfl) ?_
          refine lv_aload_n hx hb dX0_init_212 rfl (lv_at hl 1 rfl) ?_
          refine lv_iload_n hx hb dX0_init_213 rfl (lv_at hl 2 rfl) ?_
          refine uw_iald cT0_ok hx hb hK hM hr1 hq dX0_init_214 (fun v2 hq => ?_)
          refine lv_iconst (v := 4) hx hb dX0_init_215 (by decide) ?_
          obtain ⟨v4, z3, hcq, hq⟩ := tw_cl1 hq
          refine uw_cali hU hM (va_runS (As := [.int v2, .int 4]) (rest := [.ref (u r1), .int x2, .ref (u (r0 + 7))]) ⟨hx, hb, hml, hown, hts⟩ (kc_X5_invert_b0 l D q u hU.1 K v2 4 z z3 v4 hcq) (va_cwS 2 hts (tw_gS wC_good_b0 xq_28_b0 xq_29_b0 xq_3_b0 xq_4_b0) rfl rfl rfl cdd_X5_invert_b0 ⟨(Nat.le_of_ble_eq_true rfl), (Nat.le_of_ble_eq_true rfl)⟩) (cw_preS_b0 hK hM) rfl rfl hl.1 rfl (lv_room (Nat.le_of_ble_eq_true rfl)) dX0_init_216 ⟨(Nat.le_of_ble_eq_true rfl), (Nat.le_of_ble_eq_true rfl)⟩) (fun H locs hM => ?_)
          obtain ⟨v6, z5, hcq, hq⟩ := tw_cl1 hq
          refine uw_cali hU hM (va_runS (As := [.ref (u r1), .int v4]) (rest := [.int x2, .ref (u (r0 + 7))]) ⟨hx, hb, hml, hown, hts⟩ (kc_X0_indexOf_b0 l D q u hU.1 K r1 v4 hr1 z3 z5 v6 hcq) (va_cwS 2 hts (tw_gS wC_good_b0 xq_26_b0 xq_27_b0 xq_24_b0 xq_5_b0) rfl rfl rfl cdd_X0_indexOf_b0 ⟨(Nat.le_of_ble_eq_true rfl), (Nat.le_of_ble_eq_true rfl)⟩) (cw_preS_b0 hK hM) rfl rfl hl.1 rfl (lv_room (Nat.le_of_ble_eq_true rfl)) dX0_init_219 ⟨(Nat.le_of_ble_eq_true rfl), (Nat.le_of_ble_eq_true rfl)⟩) (fun H locs hM => ?_)
          refine lv_i2b hx hb dX0_init_222 rfl ?_
          refine uw_bast cT0_ok hU hx hb hK hM (cr_X0_6_b0 hr0) hq dX0_init_223 (fun z7 H locs hM hq => ?_)
          refine lv_iinc (v := (x2 + 1)) (lv' := [(2, .int (x2 + 1)), (0, .ref (u r0)), (1, .ref (u r1)), (3, .int x3)]) hx hb dX0_init_224 hl (k := 2) rfl rfl (by decide) rfl (fun ls hl => ?_)
          refine lv_goto (tgt := 116) hx hb dX0_init_227 (by decide) ?_
          exact ih_1 (x2 + 1) 0 0 0 r0 r1 z7 H locs ls hr0 hr1 kk hM (lv_sub hl [1, 2, 0] rfl) hq
        · have hq := tw_if hq hc
          refine lv_iconst (v := 0) hx hb dX0_init_130 (by decide) ?_
          refine lv_istore (lv' := [(4, .int 0), (0, .ref (u r0)), (1, .ref (u r1)), (2, .int x2), (3, .int x3)]) hx hb dX0_init_131 hl (by decide) rfl (fun ls hl => ?_)
          refine lv_iconst (v := 0) hx hb dX0_init_133 (by decide) ?_
          refine lv_istore (lv' := [(5, .int 0), (4, .int 0), (0, .ref (u r0)), (1, .ref (u r1)), (2, .int x2), (3, .int x3)]) hx hb dX0_init_134 hl (by decide) rfl (fun ls hl => ?_)
          exact ih_3 x2 x3 0 0 r0 r1 z H locs ls hr0 hr1 kk hM (lv_sub hl [2, 3, 4, 5, 1, 0] rfl) hq
      · intro x2 x3 x4 x5 r0 r1 z H locs ls hr0 hr1 kk hM hl hq
        have hq : cm_X0i_3_b0 K (c_X0i_b0 K k) x2 x3 x4 x5 r0 r1 z = some z1 := hq
        unfold cm_X0i_3_b0 at hq
        refine lv_iload hx hb dX0_init_136 (lv_at hl 5 rfl) ?_
        refine lv_iconst (v := 4) hx hb dX0_init_138 (by decide) ?_
        refine lv_icmp_ge (tgt := 182) hx hb dX0_init_139 (by decide) (fun hc => ?_) (fun hc => ?_)
        · have hq := tw_it hq hc
          refine lv_aload_n hx hb dX0_init_182 rfl (lv_at hl 0 rfl) ?_
          refine vgX0_24_b0 hx hb hT hown hK hM hr0 dX0_init_183 ?_
          refine lv_bipush (v := 24) hx hb dX0_init_186 (by decide) ?_
          refine lv_iload_n hx hb dX0_init_188 rfl (lv_at hl 2 rfl) ?_
          refine lv_imul hx hb dX0_init_189 ?_
          refine lv_iload_n hx hb dX0_init_190 rfl (lv_at hl 3 rfl) ?_
          refine lv_iadd hx hb dX0_init_191 ?_
          refine lv_aload_n hx hb dX0_init_192 rfl (lv_at hl 1 rfl) ?_
          refine lv_iload hx hb dX0_init_193 (lv_at hl 4 rfl) ?_
          obtain ⟨v9, z8, hcq, hq⟩ := tw_cl1 hq
          refine uw_cali hU hM (va_runS (As := [.ref (u r1), .int x4]) (rest := [.int ((24 * x2) + x3), .ref (u (r0 + 6))]) ⟨hx, hb, hml, hown, hts⟩ (kc_X0_indexOf_b0 l D q u hU.1 K r1 x4 hr1 z z8 v9 hcq) (va_cwS 2 hts (tw_gS wC_good_b0 xq_26_b0 xq_27_b0 xq_24_b0 xq_5_b0) rfl rfl rfl cdd_X0_indexOf_b0 ⟨(Nat.le_of_ble_eq_true rfl), (Nat.le_of_ble_eq_true rfl)⟩) (cw_preS_b0 hK hM) rfl rfl hl.1 rfl (lv_room (Nat.le_of_ble_eq_true rfl)) dX0_init_195 ⟨(Nat.le_of_ble_eq_true rfl), (Nat.le_of_ble_eq_true rfl)⟩) (fun H locs hM => ?_)
          refine lv_i2b hx hb dX0_init_198 rfl ?_
          refine uw_bast cT0_ok hU hx hb hK hM (cr_X0_5_b0 hr0) hq dX0_init_199 (fun z10 H locs hM hq => ?_)
          refine lv_iinc (v := (x3 + 1)) (lv' := [(3, .int (x3 + 1)), (0, .ref (u r0)), (1, .ref (u r1)), (2, .int x2), (4, .int x4), (5, .int x5)]) hx hb dX0_init_200 hl (k := 3) rfl rfl (by decide) rfl (fun ls hl => ?_)
          refine lv_goto (tgt := 124) hx hb dX0_init_203 (by decide) ?_
          exact ih_2 x2 (x3 + 1) 0 0 r0 r1 z10 H locs ls hr0 hr1 kk hM (lv_sub hl [1, 2, 3, 0] rfl) hq
        · have hq := tw_if hq hc
          refine lv_aload_n hx hb dX0_init_142 rfl (lv_at hl 1 rfl) ?_
          refine lv_iload_n hx hb dX0_init_143 rfl (lv_at hl 2 rfl) ?_
          refine uw_iald cT0_ok hx hb hK hM hr1 hq dX0_init_144 (fun v11 hq => ?_)
          refine lv_iload hx hb dX0_init_145 (lv_at hl 5 rfl) ?_
          obtain ⟨v13, z12, hcq, hq⟩ := tw_cl1 hq
          refine uw_cali hU hM (va_runS (As := [.int v11, .int x5]) (rest := []) ⟨hx, hb, hml, hown, hts⟩ (kc_X5_image_b0 l D q u hU.1 K v11 x5 z z12 v13 hcq) (va_cwS 2 hts (tw_gS wC_good_b0 xq_25_b0 xq_2_b0 xq_3_b0 xq_0_b0) rfl rfl rfl cdd_X5_image_b0 ⟨(Nat.le_of_ble_eq_true rfl), (Nat.le_of_ble_eq_true rfl)⟩) (cw_preS_b0 hK hM) rfl rfl hl.1 rfl (lv_room (Nat.le_of_ble_eq_true rfl)) dX0_init_147 ⟨(Nat.le_of_ble_eq_true rfl), (Nat.le_of_ble_eq_true rfl)⟩) (fun H locs hM => ?_)
          refine lv_istore (lv' := [(6, .int v13), (0, .ref (u r0)), (1, .ref (u r1)), (2, .int x2), (3, .int x3), (4, .int x4), (5, .int x5)]) hx hb dX0_init_150 hl (by decide) rfl (fun ls hl => ?_)
          refine lv_iload hx hb dX0_init_152 (lv_at hl 5 rfl) ?_
          refine lv_aload_n hx hb dX0_init_154 rfl (lv_at hl 2 rfl) ?_
          refine lv_iload_n hx hb dX0_init_155 rfl (lv_at hl 3 rfl) ?_
          refine uw_iald cT0_ok hx hb hK hM hr1 hq dX0_init_156 (fun v14 hq => ?_)
          refine lv_aload_n hx hb dX0_init_157 rfl (lv_at hl 2 rfl) ?_
          refine lv_iload_n hx hb dX0_init_158 rfl (lv_at hl 4 rfl) ?_
          refine uw_iald cT0_ok hx hb hK hM hr1 hq dX0_init_159 (fun v15 hq => ?_)
          refine lv_iload hx hb dX0_init_160 (lv_at hl 6 rfl) ?_
          obtain ⟨v17, z16, hcq, hq⟩ := tw_cl1 hq
          refine uw_cali hU hM (va_runS (As := [.int v15, .int x5]) (rest := [.int v14, .int x4]) ⟨hx, hb, hml, hown, hts⟩ (kc_X5_image_b0 l D q u hU.1 K v15 x5 z12 z16 v17 hcq) (va_cwS 2 hts (tw_gS wC_good_b0 xq_25_b0 xq_2_b0 xq_3_b0 xq_0_b0) rfl rfl rfl cdd_X5_image_b0 ⟨(Nat.le_of_ble_eq_true rfl), (Nat.le_of_ble_eq_true rfl)⟩) (cw_preS_b0 hK hM) rfl rfl hl.1 rfl (lv_room (Nat.le_of_ble_eq_true rfl)) dX0_init_162 ⟨(Nat.le_of_ble_eq_true rfl), (Nat.le_of_ble_eq_true rfl)⟩) (fun H locs hM => ?_)
          obtain ⟨v19, z18, hcq, hq⟩ := tw_cl1 hq
          refine uw_cali hU hM (va_runS (As := [.int v14, .int v17]) (rest := [.int x4]) ⟨hx, hb, hml, hown, hts⟩ (kc_X5_image_b0 l D q u hU.1 K v14 v17 z16 z18 v19 hcq) (va_cwS 2 hts (tw_gS wC_good_b0 xq_25_b0 xq_2_b0 xq_3_b0 xq_0_b0) rfl rfl rfl cdd_X5_image_b0 ⟨(Nat.le_of_ble_eq_true rfl), (Nat.le_of_ble_eq_true rfl)⟩) (cw_preS_b0 hK hM) rfl rfl hl.1 rfl (lv_room (Nat.le_of_ble_eq_true rfl)) dX0_init_165 ⟨(Nat.le_of_ble_eq_true rfl), (Nat.le_of_ble_eq_true rfl)⟩) (fun H locs hM => ?_)
          refine lv_iconst (v := 4) hx hb dX0_init_168 (by decide) ?_
          refine lv_iload hx hb dX0_init_169 (lv_at hl 0 rfl) ?_
          refine lv_imul hx hb dX0_init_171 ?_
          refine lv_ishl hx hb dX0_init_172 ?_
          refine lv_ior hx hb dX0_init_173 ?_
          refine lv_istore (lv' := [(4, .int (x4 ||| ((v19 : Int32) <<< (((4 * v13) : Int32) &&& 31)))), (6, .int v13), (0, .ref (u r0)), (1, .ref (u r1)), (2, .int x2), (3, .int x3), (5, .int x5)]) hx hb dX0_init_174 hl (by decide) rfl (fun ls hl => ?_)
          refine lv_iinc (v := (x5 + 1)) (lv' := [(5, .int (x5 + 1)), (4, .int (x4 ||| ((v19 : Int32) <<< (((4 * v13) : Int32) &&& 31)))), (6, .int v13), (0, .ref (u r0)), (1, .ref (u r1)), (2, .int x2), (3, .int x3)]) hx hb dX0_init_176 hl (k := 6) rfl rfl (by decide) rfl (fun ls hl => ?_)
          refine lv_goto (tgt := 136) hx hb dX0_init_179 (by decide) ?_
          exact ih_3 x2 x3 (x4 ||| ((v19 : Int32) <<< (((4 * v13) : Int32) &&& 31))) (x5 + 1) r0 r1 z18 H locs ls hr0 hr1 kk hM (lv_sub hl [3, 4, 5, 6, 1, 0] rfl) hq
  exact (key K).1 0 0 0 0 r0 r1 z H locs ls hr0 hr1 kk hM hl hq
