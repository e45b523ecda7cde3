theorem dcX6_surround_0 : decode cX6_surround 0 = .ok (.aload_n 3, 1) := by decide +kernel
theorem dcX6_surround_1 : decode cX6_surround 1 = .ok (.iconst 0, 1) := by decide +kernel
theorem dcX6_surround_2 : decode cX6_surround 2 = .ok (.putfield 169, 3) := by decide +kernel
theorem dcX6_surround_5 : decode cX6_surround 5 = .ok (.iconst 0, 1) := by decide +kernel
theorem dcX6_surround_6 : decode cX6_surround 6 = .ok (.istore 4, 2) := by decide +kernel
theorem dcX6_surround_8 : decode cX6_surround 8 = .ok (.iload 4, 2) := by decide +kernel
theorem dcX6_surround_10 : decode cX6_surround 10 = .ok (.iconst 5, 1) := by decide +kernel
theorem dcX6_surround_11 : decode cX6_surround 11 = .ok (.if_icmp .ge 18, 3) := by decide +kernel
theorem dcX6_surround_14 : decode cX6_surround 14 = .ok (.aload_n 0, 1) := by decide +kernel
theorem dcX6_surround_15 : decode cX6_surround 15 = .ok (.aload_n 1, 1) := by decide +kernel
theorem dcX6_surround_16 : decode cX6_surround 16 = .ok (.iload_n 2, 1) := by decide +kernel
theorem dcX6_surround_17 : decode cX6_surround 17 = .ok (.iload 4, 2) := by decide +kernel
theorem dcX6_surround_19 : decode cX6_surround 19 = .ok (.aload_n 3, 1) := by decide +kernel
theorem dcX6_surround_20 : decode cX6_surround 20 = .ok (.invokevirtual 172, 3) := by decide +kernel
theorem dcX6_surround_23 : decode cX6_surround 23 = .ok (.iinc 4 1, 3) := by decide +kernel
theorem dcX6_surround_26 : decode cX6_surround 26 = .ok (.goto (-18), 3) := by decide +kernel
theorem dcX6_surround_29 : decode cX6_surround 29 = .ok (.return_, 1) := by decide +kernel
def cm_X6_surround_0 (vl : Nat → Nat) (K : Nat) (go : Nat → Int32 → Int32 → Nat → Nat → Nat → ow_MS → Option ow_MS) (x2 : Int32) (x4 : Int32) (r0 : Nat) (r1 : Nat) (r3 : Nat) (z : ow_MS) : Option ow_MS :=
 wrF z (r3 + 5) 0 fun z1 => go 1 x2 0 r0 r1 r3 z1
def cm_X6_surround_1 (vl : Nat → Nat) (K : Nat) (go : Nat → Int32 → Int32 → Nat → Nat → Nat → ow_MS → Option ow_MS) (x2 : Int32) (x4 : Int32) (r0 : Nat) (r1 : Nat) (r3 : Nat) (z : ow_MS) : Option ow_MS :=
 (if 5 ≤ x4 then some z
 else cs0 (ce_X6_collect vl K r0 r1 x2 x4 r3 z) fun z2 => go 1 x2 (x4 + 1) r0 r1 r3 z2)
def cb_X6_surround (vl : Nat → Nat) (K : Nat) (go : Nat → Int32 → Int32 → Nat → Nat → Nat → ow_MS → Option ow_MS) (L : Nat) (x2 : Int32) (x4 : Int32) (r0 : Nat) (r1 : Nat) (r3 : Nat) (z : ow_MS) : Option ow_MS := match L with
  | 0 => cm_X6_surround_0 vl K go x2 x4 r0 r1 r3 z
  | 1 => cm_X6_surround_1 vl K go x2 x4 r0 r1 r3 z
  | _ => none
def c_X6_surround (vl : Nat → Nat) (K : Nat) : Nat → Nat → Int32 → Int32 → Nat → Nat → Nat → ow_MS → Option ow_MS
  | 0 => fun _ _ _ _ _ _ _ => none
  | k + 1 => cb_X6_surround vl K (c_X6_surround vl K k)
def ce_X6_surround (vl : Nat → Nat) (K : Nat) (r0 : Nat) (r1 : Nat) (x2 : Int32) (r3 : Nat) (z : ow_MS) : Option ow_MS := c_X6_surround vl K K 0 x2 0 r0 r1 r3 z
abbrev wc_X6_surround : List Cond := .code yX6_surround cX6_surround 5 none :: wC
theorem cdd_X6_surround : yX6_surround.cls = RX6 ∧ yX6_surround.cls ≠ "java/lang/invoke/MethodHandle" ∧ yX6_surround.cls ≠ "java/lang/invoke/VarHandle" ∧ (parseMethodDescriptor yX6_surround.desc).map (fun d => d.parameters.length) = some 3 := by decide +kernel
set_option maxHeartbeats 4000000 in
set_option maxRecDepth 100000 in
theorem kc_X6_surround (l : Launch) (D : va_G) (q : Nat → ClassId) (vl u : Nat → Nat) (hU0 : tw_inj (cX vl) u) (K : Nat) (r0 : Nat) (r1 : Nat) (x2 : Int32) (r3 : Nat) (hr0 : cw_X6 r0) (hr1 : cw_X3 r1) (hr3 : cw_X3 r3) (z z1 : ow_MS) (hq : ce_X6_surround vl K r0 r1 x2 r3 z = some z1) : Met l yX6_surround wc_X6_surround ({ frames := 7, cells := 0, slots := 0, locals := 181 } : Room) (va_Pc [.ref (u r0), .ref (u r1), .int x2, .ref (u r3)] (cw_pre D q vl u z)) (va_Qv (fun (_ : Unit) => True) (fun _ t => va_P D vwCl (uw (cX vl) q u z1) t.heap) (tw_A (cX vl) u)) 0 0 (tw_A (cX vl) u) := by
  refine Met.ofW (cc := cX6_surround) (maxL := 5) (ret := none) (by decide) rfl ?_
  intro p e s m args below meth c s₁ B hml hv
  obtain ⟨rfl, hP, hK⟩ := hv
  have hx := B.exec
  have hb := B.bytes
  have hr := B.returns
  have hts := atoms_spec (ws := wc_X6_surround) B.pre
  have hT : ∀ w ∈ wC, w.before ([.ref (u r0), .ref (u r1), .int x2, .ref (u r3)] : List Value).toArray s = true := fun w h => hts w (List.mem_cons_of_mem _ h)
  have hown : s.vm.findClass RX6 = some m.cls := findClass_of_methodNamed B.named
  have hlocks := B.notSynchronized
  have hU : uw_inj (cX vl) u (tw_A (cX vl) u) := ⟨hU0, fun h hh => ⟨h, hh, rfl⟩⟩
  have hM : uw_M D vwCl (cX vl) q (tw_A (cX vl) u) s.heap u z s.heap [] := ⟨hP, va_S.rf⟩
  have hl := lv_entry ([.ref (u r0), .ref (u r1), .int x2, .ref (u r3)]) (n := 5) (Nat.le_of_ble_eq_true rfl)
  rw [lg_entry_eq]
  generalize (lg_sl ([.ref (u r0), .ref (u r1), .int x2, .ref (u r3)]) ++ List.replicate (5 - (lg_sl ([.ref (u r0), .ref (u r1), .int x2, .ref (u r3)])).length) Slot.unset).toArray = ls at hl ⊢
  have hl : lv_has ls 5 [(0, .ref (u r0)), (1, .ref (u r1)), (2, .int x2), (3, .ref (u r3))] := hl
  refine ow_named (fun QQ hQQ => ?_)
  generalize ([.ref (u r0), .ref (u r1), .int x2, .ref (u r3)] : List Value).toArray = args at hts hT hQQ ⊢
  have key : ∀ k : Nat, (∀ (x2 : Int32) (x4 : Int32) (r0 : Nat) (r1 : Nat) (r3 : Nat) (z : ow_MS) (H : Heap) (locs : List Loc) (ls : Array Slot), cw_X6 r0 → cw_X3 r1 → cw_X3 r3 → uw_M D vwCl (cX vl) q (tw_A (cX vl) u) s.heap u z H locs → lv_has ls 5 [(0, .ref (u r0)), (1, .ref (u r1)), (2, .int x2), (3, .ref (u r3))] → c_X6_surround vl K k 0 x2 x4 r0 r1 r3 z = some z1 → W p l e ({ frames := 7, cells := 0, slots := 0, locals := 181 } : Room) s m args below meth c H locs 0 0 QQ (F0 m 0 ls [])) ∧ (∀ (x2 : Int32) (x4 : Int32) (r0 : Nat) (r1 : Nat) (r3 : Nat) (z : ow_MS) (H : Heap) (locs : List Loc) (ls : Array Slot), cw_X6 r0 → cw_X3 r1 → cw_X3 r3 → uw_M D vwCl (cX vl) q (tw_A (cX vl) u) s.heap u z H locs → lv_has ls 5 [(0, .ref (u r0)), (1, .ref (u r1)), (2, .int x2), (3, .ref (u r3)), (4, .int x4)] → c_X6_surround vl K k 1 x2 x4 r0 r1 r3 z = some z1 → W p l e ({ frames := 7, cells := 0, slots := 0, locals := 181 } : Room) s m args below meth c H locs 0 0 QQ (F0 m 8 ls [])) := by
    intro k
    induction k with
    | zero => exact ⟨fun _ _ _ _ _ _ _ _ _ _ _ _ _ _ hq => cw_no hq, fun _ _ _ _ _ _ _ _ _ _ _ _ _ _ hq => cw_no hq⟩
    | succ k ih =>
      obtain ⟨ih_0, ih_1⟩ := ih
      refine ⟨?_, ?_⟩
      · intro x2 x4 r0 r1 r3 z H locs ls hr0 hr1 hr3 hM hl hq
        have hq : cm_X6_surround_0 vl K (c_X6_surround vl K k) x2 x4 r0 r1 r3 z = some z1 := hq
        unfold cm_X6_surround_0 at hq
        refine lv_aload_n hx hb dcX6_surround_0 rfl (lv_at hl 3 rfl) ?_
        refine lv_iconst (v := 0) hx hb dcX6_surround_1 (by decide) ?_
        refine vpX6_169 hx hb hT hown hK hM hU hr3 hq dcX6_surround_2 (fun z1 H locs hM hq => ?_)
        refine lv_iconst (v := 0) hx hb dcX6_surround_5 (by decide) ?_
        refine lv_istore (lv' := [(4, .int 0), (0, .ref (u r0)), (1, .ref (u r1)), (2, .int x2), (3, .ref (u r3))]) hx hb dcX6_surround_6 hl (by decide) rfl (fun ls hl => ?_)
        exact ih_1 x2 0 r0 r1 r3 z1 H locs ls hr0 hr1 hr3 hM (lv_sub hl [1, 2, 3, 4, 0] rfl) hq
      · intro x2 x4 r0 r1 r3 z H locs ls hr0 hr1 hr3 hM hl hq
        have hq : cm_X6_surround_1 vl K (c_X6_surround vl K k) x2 x4 r0 r1 r3 z = some z1 := hq
        unfold cm_X6_surround_1 at hq
        refine lv_iload hx hb dcX6_surround_8 (lv_at hl 4 rfl) ?_
        refine lv_iconst (v := 5) hx hb dcX6_surround_10 (by decide) ?_
        refine lv_icmp_ge (tgt := 29) hx hb dcX6_surround_11 (by decide) (fun hc => ?_) (fun hc => ?_)
        · have hq := tw_it hq hc
          exact cw_vret hx hb hr hlocks hM hq hQQ dcX6_surround_29
        · have hq := tw_if hq hc
          refine lv_aload_n hx hb dcX6_surround_14 rfl (lv_at hl 0 rfl) ?_
          refine lv_aload_n hx hb dcX6_surround_15 rfl (lv_at hl 1 rfl) ?_
          refine lv_iload_n hx hb dcX6_surround_16 rfl (lv_at hl 2 rfl) ?_
          refine lv_iload hx hb dcX6_surround_17 (lv_at hl 4 rfl) ?_
          refine lv_aload_n hx hb dcX6_surround_19 rfl (lv_at hl 3 rfl) ?_
          obtain ⟨z2, hcq, hq⟩ := tw_cl0 hq
          refine uw_calv hU hM (va_runV (As := [.ref (u r1), .int x2, .int x4, .ref (u r3)]) (rest := []) ⟨hx, hb, hml, hown, hts⟩ (kc_X6_collect l D q vl u hU.1 K r0 r1 x2 x4 r3 hr0 hr1 hr3 z z2 hcq) (cwV 4 hts (tw_gV wC_good xq_562 xq_563 xq_564 xq_146 xq_559) rfl rfl rfl cdd_X6_collect ⟨(Nat.le_of_ble_eq_true rfl), (Nat.le_of_ble_eq_true rfl)⟩) (cw_preV hK hM (co_X6 hr0) rfl) rfl rfl hl.1 rfl (lv_room (Nat.le_of_ble_eq_true rfl)) dcX6_surround_20 ⟨(Nat.le_of_ble_eq_true rfl), (Nat.le_of_ble_eq_true rfl)⟩) (fun H locs hM => ?_)
          refine lv_iinc (v := (x4 + 1)) (lv' := [(4, .int (x4 + 1)), (0, .ref (u r0)), (1, .ref (u r1)), (2, .int x2), (3, .ref (u r3))]) hx hb dcX6_surround_23 hl (k := 4) rfl rfl (by decide) rfl (fun ls hl => ?_)
          refine lv_goto (tgt := 8) hx hb dcX6_surround_26 (by decide) ?_
          exact ih_1 x2 (x4 + 1) r0 r1 r3 z2 H locs ls hr0 hr1 hr3 hM (lv_sub hl [1, 2, 3, 4, 0] rfl) hq
  exact (key K).1 x2 0 r0 r1 r3 z s.heap [] ls hr0 hr1 hr3 hM (lv_sub hl [0, 1, 2, 3] rfl) hq
theorem dcX7_empty_0 : decode cX7_empty 0 = .ok (.aload_n 0, 1) := by decide +kernel
theorem dcX7_empty_1 : decode cX7_empty 1 = .ok (.iconst 0, 1) := by decide +kernel
theorem dcX7_empty_2 : decode cX7_empty 2 = .ok (.putfield 39, 3) := by decide +kernel
theorem dcX7_empty_5 : decode cX7_empty 5 = .ok (.aload_n 0, 1) := by decide +kernel
theorem dcX7_empty_6 : decode cX7_empty 6 = .ok (.iconst 0, 1) := by decide +kernel
theorem dcX7_empty_7 : decode cX7_empty 7 = .ok (.putfield 42, 3) := by decide +kernel
theorem dcX7_empty_10 : decode cX7_empty 10 = .ok (.return_, 1) := by decide +kernel
def cm_X7_empty_0 (vl : Nat → Nat) (K : Nat) (r0 : Nat) (z : ow_MS) : Option ow_MS :=
 wrF z (r0 + 8) 0 fun z1 => wrF z1 (r0 + 9) 0 fun z2 => some z2
def ce_X7_empty (vl : Nat → Nat) (K : Nat) (r0 : Nat) (z : ow_MS) : Option ow_MS := cm_X7_empty_0 vl K r0 z
abbrev wc_X7_empty : List Cond := .code yX7_empty cX7_empty 1 none :: wC
theorem cdd_X7_empty : yX7_empty.cls = RX7 ∧ yX7_empty.cls ≠ "java/lang/invoke/MethodHandle" ∧ yX7_empty.cls ≠ "java/lang/invoke/VarHandle" ∧ (parseMethodDescriptor yX7_empty.desc).map (fun d => d.parameters.length) = some 0 := by decide +kernel
set_option maxHeartbeats 4000000 in
set_option maxRecDepth 100000 in
theorem kc_X7_empty (l : Launch) (D : va_G) (q : Nat → ClassId) (vl u : Nat → Nat) (hU0 : tw_inj (cX vl) u) (K : Nat) (r0 : Nat) (hr0 : cw_X7 r0) (z z1 : ow_MS) (hq : ce_X7_empty vl K r0 z = some z1) : Met l yX7_empty wc_X7_empty ({ frames := 0, cells := 0, slots := 0, locals := 0 } : Room) (va_Pc [.ref (u r0)] (cw_pre D q vl u z)) (va_Qv (fun (_ : Unit) => True) (fun _ t => va_P D vwCl (uw (cX vl) q u z1) t.heap) (tw_A (cX vl) u)) 0 0 (tw_A (cX vl) u) := by
  refine Met.ofW (cc := cX7_empty) (maxL := 1) (ret := none) (by decide) rfl ?_
  intro p e s m args below meth c s₁ B hml hv
  obtain ⟨rfl, hP, hK⟩ := hv
  have hx := B.exec
  have hb := B.bytes
  have hr := B.returns
  have hts := atoms_spec (ws := wc_X7_empty) B.pre
  have hT : ∀ w ∈ wC, w.before ([.ref (u r0)] : List Value).toArray s = true := fun w h => hts w (List.mem_cons_of_mem _ h)
  have hown : s.vm.findClass RX7 = some m.cls := findClass_of_methodNamed B.named
  have hlocks := B.notSynchronized
  have hU : uw_inj (cX vl) u (tw_A (cX vl) u) := ⟨hU0, fun h hh => ⟨h, hh, rfl⟩⟩
  have hM : uw_M D vwCl (cX vl) q (tw_A (cX vl) u) s.heap u z s.heap [] := ⟨hP, va_S.rf⟩
  have hl := lv_entry ([.ref (u r0)]) (n := 1) (Nat.le_of_ble_eq_true rfl)
  rw [lg_entry_eq]
  generalize (lg_sl ([.ref (u r0)]) ++ List.replicate (1 - (lg_sl ([.ref (u r0)])).length) Slot.unset).toArray = ls at hl ⊢
  have hl : lv_has ls 1 [(0, .ref (u r0))] := hl
  refine ow_named (fun QQ hQQ => ?_)
  generalize ([.ref (u r0)] : List Value).toArray = args at hts hT hQQ ⊢
  have hq : cm_X7_empty_0 vl K r0 z = some z1 := hq
  unfold cm_X7_empty_0 at hq
  suffices key : ∀ (H : Heap) (locs : List Loc), uw_M D vwCl (cX vl) q (tw_A (cX vl) u) s.heap u z H locs → W p l e ({ frames := 0, cells := 0, slots := 0, locals := 0 } : Room) s m args below meth c H locs 0 0 QQ (F0 m 0 ls []) from key s.heap [] hM
  intro H locs hM
  refine lv_aload_n hx hb dcX7_empty_0 rfl (lv_at hl 0 rfl) ?_
  refine lv_iconst (v := 0) hx hb dcX7_empty_1 (by decide) ?_
  refine vpX7_39 hx hb hT hown hK hM hU hr0 hq dcX7_empty_2 (fun z1 H locs hM hq => ?_)
  refine lv_aload_n hx hb dcX7_empty_5 rfl (lv_at hl 0 rfl) ?_
  refine lv_iconst (v := 0) hx hb dcX7_empty_6 (by decide) ?_
  refine vpX7_42 hx hb hT hown hK hM hU hr0 hq dcX7_empty_7 (fun z2 H locs hM hq => ?_)
  exact cw_vret hx hb hr hlocks hM hq hQQ dcX7_empty_10
theorem dcX7_append_0 : decode cX7_append 0 = .ok (.iconst 2, 1) := dw_at cX7_append_k0 (p := 0) rfl (by decide +kernel)
theorem dcX7_append_1 : decode cX7_append 1 = .ok (.aload_n 0, 1) := dw_at cX7_append_k0 (p := 1) rfl (by decide +kernel)
theorem dcX7_append_2 : decode cX7_append 2 = .ok (.getfield 39, 3) := dw_at cX7_append_k0 (p := 2) rfl (by decide +kernel)
theorem dcX7_append_5 : decode cX7_append 5 = .ok (.imul, 1) := dw_at cX7_append_k0 (p := 5) rfl (by decide +kernel)
theorem dcX7_append_6 : decode cX7_append 6 = .ok (.istore_n 2, 1) := dw_at cX7_append_k0 (p := 6) rfl (by decide +kernel)
theorem dcX7_append_7 : decode cX7_append 7 = .ok (.iconst 0, 1) := dw_at cX7_append_k0 (p := 7) rfl (by decide +kernel)
theorem dcX7_append_8 : decode cX7_append 8 = .ok (.istore_n 3, 1) := dw_at cX7_append_k0 (p := 8) rfl (by decide +kernel)
theorem dcX7_append_9 : decode cX7_append 9 = .ok (.iload_n 3, 1) := dw_at cX7_append_k0 (p := 9) rfl (by decide +kernel)
theorem dcX7_append_10 : decode cX7_append 10 = .ok (.iconst 2, 1) := dw_at cX7_append_k0 (p := 10) rfl (by decide +kernel)
theorem dcX7_append_11 : decode cX7_append 11 = .ok (.aload_n 1, 1) := dw_at cX7_append_k0 (p := 11) rfl (by decide +kernel)
theorem dcX7_append_12 : decode cX7_append 12 = .ok (.getfield 39, 3) := dw_at cX7_append_k0 (p := 12) rfl (by decide +kernel)
theorem dcX7_append_15 : decode cX7_append 15 = .ok (.imul, 1) := dw_at cX7_append_k0 (p := 15) rfl (by decide +kernel)
theorem dcX7_append_16 : decode cX7_append 16 = .ok (.if_icmp .ge 41, 3) := dw_at cX7_append_k0 (p := 16) rfl (by decide +kernel)
theorem dcX7_append_19 : decode cX7_append 19 = .ok (.aload_n 0, 1) := dw_at cX7_append_k0 (p := 19) rfl (by decide +kernel)
theorem dcX7_append_20 : decode cX7_append 20 = .ok (.getfield 9, 3) := dw_at cX7_append_k0 (p := 20) rfl (by decide +kernel)
theorem dcX7_append_23 : decode cX7_append 23 = .ok (.iload_n 2, 1) := dw_at cX7_append_k0 (p := 23) rfl (by decide +kernel)
theorem dcX7_append_24 : decode cX7_append 24 = .ok (.iload_n 3, 1) := dw_at cX7_append_k1 (p := 0) rfl (by decide +kernel)
theorem dcX7_append_25 : decode cX7_append 25 = .ok (.iadd, 1) := dw_at cX7_append_k1 (p := 1) rfl (by decide +kernel)
theorem dcX7_append_26 : decode cX7_append 26 = .ok (.iload_n 2, 1) := dw_at cX7_append_k1 (p := 2) rfl (by decide +kernel)
theorem dcX7_append_27 : decode cX7_append 27 = .ok (.aload_n 1, 1) := dw_at cX7_append_k1 (p := 3) rfl (by decide +kernel)
theorem dcX7_append_28 : decode cX7_append 28 = .ok (.getfield 9, 3) := dw_at cX7_append_k1 (p := 4) rfl (by decide +kernel)
theorem dcX7_append_31 : decode cX7_append 31 = .ok (.iload_n 3, 1) := dw_at cX7_append_k1 (p := 7) rfl (by decide +kernel)
theorem dcX7_append_32 : decode cX7_append 32 = .ok (.iaload, 1) := dw_at cX7_append_k1 (p := 8) rfl (by decide +kernel)
theorem dcX7_append_33 : decode cX7_append 33 = .ok (.iadd, 1) := dw_at cX7_append_k1 (p := 9) rfl (by decide +kernel)
theorem dcX7_append_34 : decode cX7_append 34 = .ok (.iastore, 1) := dw_at cX7_append_k1 (p := 10) rfl (by decide +kernel)
theorem dcX7_append_35 : decode cX7_append 35 = .ok (.aload_n 0, 1) := dw_at cX7_append_k1 (p := 11) rfl (by decide +kernel)
theorem dcX7_append_36 : decode cX7_append 36 = .ok (.getfield 15, 3) := dw_at cX7_append_k1 (p := 12) rfl (by decide +kernel)
theorem dcX7_append_39 : decode cX7_append 39 = .ok (.iload_n 2, 1) := dw_at cX7_append_k1 (p := 15) rfl (by decide +kernel)
theorem dcX7_append_40 : decode cX7_append 40 = .ok (.iload_n 3, 1) := dw_at cX7_append_k1 (p := 16) rfl (by decide +kernel)
theorem dcX7_append_41 : decode cX7_append 41 = .ok (.iadd, 1) := dw_at cX7_append_k1 (p := 17) rfl (by decide +kernel)
theorem dcX7_append_42 : decode cX7_append 42 = .ok (.iload_n 2, 1) := dw_at cX7_append_k1 (p := 18) rfl (by decide +kernel)
theorem dcX7_append_43 : decode cX7_append 43 = .ok (.aload_n 1, 1) := dw_at cX7_append_k1 (p := 19) rfl (by decide +kernel)
theorem dcX7_append_44 : decode cX7_append 44 = .ok (.getfield 15, 3) := dw_at cX7_append_k1 (p := 20) rfl (by decide +kernel)
theorem dcX7_append_47 : decode cX7_append 47 = .ok (.iload_n 3, 1) := dw_at cX7_append_k1 (p := 23) rfl (by decide +kernel)
theorem dcX7_append_48 : decode cX7_append 48 = .ok (.iaload, 1) := dw_at cX7_append_k2 (p := 0) rfl (by decide +kernel)
theorem dcX7_append_49 : decode cX7_append 49 = .ok (.iadd, 1) := dw_at cX7_append_k2 (p := 1) rfl (by decide +kernel)
theorem dcX7_append_50 : decode cX7_append 50 = .ok (.iastore, 1) := dw_at cX7_append_k2 (p := 2) rfl (by decide +kernel)
theorem dcX7_append_51 : decode cX7_append 51 = .ok (.iinc 3 1, 3) := dw_at cX7_append_k2 (p := 3) rfl (by decide +kernel)
theorem dcX7_append_54 : decode cX7_append 54 = .ok (.goto (-45), 3) := dw_at cX7_append_k2 (p := 6) rfl (by decide +kernel)
theorem dcX7_append_57 : decode cX7_append 57 = .ok (.aload_n 1, 1) := dw_at cX7_append_k2 (p := 9) rfl (by decide +kernel)
theorem dcX7_append_58 : decode cX7_append 58 = .ok (.getfield 18, 3) := dw_at cX7_append_k2 (p := 10) rfl (by decide +kernel)
theorem dcX7_append_61 : decode cX7_append 61 = .ok (.iconst 0, 1) := dw_at cX7_append_k2 (p := 13) rfl (by decide +kernel)
theorem dcX7_append_62 : decode cX7_append 62 = .ok (.aload_n 0, 1) := dw_at cX7_append_k2 (p := 14) rfl (by decide +kernel)
theorem dcX7_append_63 : decode cX7_append 63 = .ok (.getfield 18, 3) := dw_at cX7_append_k2 (p := 15) rfl (by decide +kernel)
theorem dcX7_append_66 : decode cX7_append 66 = .ok (.aload_n 0, 1) := dw_at cX7_append_k2 (p := 18) rfl (by decide +kernel)
theorem dcX7_append_67 : decode cX7_append 67 = .ok (.getfield 39, 3) := dw_at cX7_append_k2 (p := 19) rfl (by decide +kernel)
theorem dcX7_append_70 : decode cX7_append 70 = .ok (.aload_n 1, 1) := dw_at cX7_append_k2 (p := 22) rfl (by decide +kernel)
theorem dcX7_append_71 : decode cX7_append 71 = .ok (.getfield 39, 3) := dw_at cX7_append_k2 (p := 23) rfl (by decide +kernel)
theorem dcX7_append_74 : decode cX7_append 74 = .ok (.invokestatic 58, 3) := dw_at cX7_append_k3 (p := 0) rfl (by decide +kernel)
theorem dcX7_append_77 : decode cX7_append 77 = .ok (.aload_n 0, 1) := dw_at cX7_append_k3 (p := 3) rfl (by decide +kernel)
theorem dcX7_append_78 : decode cX7_append 78 = .ok (.dup, 1) := dw_at cX7_append_k3 (p := 4) rfl (by decide +kernel)
theorem dcX7_append_79 : decode cX7_append 79 = .ok (.getfield 39, 3) := dw_at cX7_append_k3 (p := 5) rfl (by decide +kernel)
theorem dcX7_append_82 : decode cX7_append 82 = .ok (.aload_n 1, 1) := dw_at cX7_append_k3 (p := 8) rfl (by decide +kernel)
theorem dcX7_append_83 : decode cX7_append 83 = .ok (.getfield 39, 3) := dw_at cX7_append_k3 (p := 9) rfl (by decide +kernel)
theorem dcX7_append_86 : decode cX7_append 86 = .ok (.iadd, 1) := dw_at cX7_append_k3 (p := 12) rfl (by decide +kernel)
theorem dcX7_append_87 : decode cX7_append 87 = .ok (.putfield 39, 3) := dw_at cX7_append_k3 (p := 13) rfl (by decide +kernel)
theorem dcX7_append_90 : decode cX7_append 90 = .ok (.aload_n 0, 1) := dw_at cX7_append_k3 (p := 16) rfl (by decide +kernel)
theorem dcX7_append_91 : decode cX7_append 91 = .ok (.dup, 1) := dw_at cX7_append_k3 (p := 17) rfl (by decide +kernel)
theorem dcX7_append_92 : decode cX7_append 92 = .ok (.getfield 42, 3) := dw_at cX7_append_k3 (p := 18) rfl (by decide +kernel)
theorem dcX7_append_95 : decode cX7_append 95 = .ok (.aload_n 1, 1) := dw_at cX7_append_k3 (p := 21) rfl (by decide +kernel)
theorem dcX7_append_96 : decode cX7_append 96 = .ok (.getfield 42, 3) := dw_at cX7_append_k3 (p := 22) rfl (by decide +kernel)
theorem dcX7_append_99 : decode cX7_append 99 = .ok (.iadd, 1) := dw_at cX7_append_k3 (p := 25) rfl (by decide +kernel)
theorem dcX7_append_100 : decode cX7_append 100 = .ok (.putfield 42, 3) := dw_at cX7_append_k3 (p := 26) rfl (by decide +kernel)
theorem dcX7_append_103 : decode cX7_append 103 = .ok (.return_, 1) := dw_at cX7_append_k3 (p := 29) rfl (by decide +kernel)
def cm_X7_append_0 (vl : Nat → Nat) (K : Nat) (go : Nat → Int32 → Int32 → Nat → Nat → ow_MS → Option ow_MS) (x2 : Int32) (x3 : Int32) (r0 : Nat) (r1 : Nat) (z : ow_MS) : Option ow_MS :=
 rdF z (r0 + 8) fun v1 => go 1 (2 * v1) 0 r0 r1 z
def cm_X7_append_1 (vl : Nat → Nat) (K : Nat) (go : Nat → Int32 → Int32 → Nat → Nat → ow_MS → Option ow_MS) (x2 : Int32) (x3 : Int32) (r0 : Nat) (r1 : Nat) (z : ow_MS) : Option ow_MS :=
 rdF z (r1 + 8) fun v2 => (if (2 * v2) ≤ x3 then rdF z (r0 + 8) fun v3 => rdF z (r1 + 8) fun v4 => cpI (cX vl) z (r1 + 3) 0 (r0 + 3) v3 v4 fun z5 => rdF z5 (r0 + 8) fun v6 => rdF z5 (r1 + 8) fun v7 => wrF z5 (r0 + 8) (v6 + v7) fun z8 => rdF z8 (r0 + 9) fun v9 => rdF z8 (r1 + 9) fun v10 => wrF z8 (r0 + 9) (v9 + v10) fun z11 => some z11
 else crI (cX vl) z (r1 + 1) x3 fun v12 => ctI (cX vl) z (r0 + 1) (x2 + x3) (x2 + v12) fun z13 => crI (cX vl) z13 (r1 + 2) x3 fun v14 => ctI (cX vl) z13 (r0 + 2) (x2 + x3) (x2 + v14) fun z15 => go 1 x2 (x3 + 1) r0 r1 z15)
def cb_X7_append (vl : Nat → Nat) (K : Nat) (go : Nat → Int32 → Int32 → Nat → Nat → ow_MS → Option ow_MS) (L : Nat) (x2 : Int32) (x3 : Int32) (r0 : Nat) (r1 : Nat) (z : ow_MS) : Option ow_MS := match L with
  | 0 => cm_X7_append_0 vl K go x2 x3 r0 r1 z
  | 1 => cm_X7_append_1 vl K go x2 x3 r0 r1 z
  | _ => none
def c_X7_append (vl : Nat → Nat) (K : Nat) : Nat → Nat → Int32 → Int32 → Nat → Nat → ow_MS → Option ow_MS
  | 0 => fun _ _ _ _ _ _ => none
  | k + 1 => cb_X7_append vl K (c_X7_append vl K k)
def ce_X7_append (vl : Nat → Nat) (K : Nat) (r0 : Nat) (r1 : Nat) (z : ow_MS) : Option ow_MS := c_X7_append vl K K 0 0 0 r0 r1 z
abbrev wc_X7_append : List Cond := .code yX7_append cX7_append 4 none :: wC
theorem cdd_X7_append : yX7_append.cls = RX7 ∧ yX7_append.cls ≠ "java/lang/invoke/MethodHandle" ∧ yX7_append.cls ≠ "java/lang/invoke/VarHandle" ∧ (parseMethodDescriptor yX7_append.desc).map (fun d => d.parameters.length) = some 1 := by decide +kernel
set_option maxHeartbeats 4000000 in
set_option maxRecDepth 100000 in
theorem kc_X7_append (l : Launch) (D : va_G) (q : Nat → ClassId) (vl u : Nat → Nat) (hU0 : tw_inj (cX vl) u) (K : Nat) (r0 : Nat) (r1 : Nat) (hr0 : cw_X7 r0) (hr1 : cw_X7 r1) (z z1 : ow_MS) (hq : ce_X7_append vl K r0 r1 z = some z1) : Met l yX7_append wc_X7_append ({ frames := 1, cells := 0, slots := 0, locals := 60 } : Room) (va_Pc [.ref (u r0), .ref (u r1)] (cw_pre D q vl u z)) (va_Qv (fun (_ : Unit) => True) (fun _ t => va_P D vwCl (uw (cX vl) q u z1) t.heap) (tw_A (cX vl) u)) 0 0 (tw_A (cX vl) u) := by
  refine Met.ofW (cc := cX7_append) (maxL := 4) (ret := none) (by decide) rfl ?_
  intro p e s m args below meth c s₁ B hml hv
  obtain ⟨rfl, hP, hK⟩ := hv
  have hx := B.exec
  have hb := B.bytes
  have hr := B.returns
  have hts := atoms_spec (ws := wc_X7_append) B.pre
  have hT : ∀ w ∈ wC, w.before ([.ref (u r0), .ref (u r1)] : List Value).toArray s = true := fun w h => hts w (List.mem_cons_of_mem _ h)
  have hown : s.vm.findClass RX7 = some m.cls := findClass_of_methodNamed B.named
  have hlocks := B.notSynchronized
  have hU : uw_inj (cX vl) u (tw_A (cX vl) u) := ⟨hU0, fun h hh => ⟨h, hh, rfl⟩⟩
  have hM : uw_M D vwCl (cX vl) q (tw_A (cX vl) u) s.heap u z s.heap [] := ⟨hP, va_S.rf⟩
  have hl := lv_entry ([.ref (u r0), .ref (u r1)]) (n := 4) (Nat.le_of_ble_eq_true rfl)
  rw [lg_entry_eq]
  generalize (lg_sl ([.ref (u r0), .ref (u r1)]) ++ List.replicate (4 - (lg_sl ([.ref (u r0), .ref (u r1)])).length) Slot.unset).toArray = ls at hl ⊢
  have hl : lv_has ls 4 [(0, .ref (u r0)), (1, .ref (u r1))] := hl
  refine ow_named (fun QQ hQQ => ?_)
  generalize ([.ref (u r0), .ref (u r1)] : List Value).toArray = args at hts hT hQQ ⊢
  have key : ∀ k : Nat, (∀ (x2 : Int32) (x3 : Int32) (r0 : Nat) (r1 : Nat) (z : ow_MS) (H : Heap) (locs : List Loc) (ls : Array Slot), cw_X7 r0 → cw_X7 r1 → uw_M D vwCl (cX vl) q (tw_A (cX vl) u) s.heap u z H locs → lv_has ls 4 [(0, .ref (u r0)), (1, .ref (u r1))] → c_X7_append vl K k 0 x2 x3 r0 r1 z = some z1 → W p l e ({ frames := 1, cells := 0, slots := 0, locals := 60 } : Room) s m args below meth c H locs 0 0 QQ (F0 m 0 ls [])) ∧ (∀ (x2 : Int32) (x3 : Int32) (r0 : Nat) (r1 : Nat) (z : ow_MS) (H : Heap) (locs : List Loc) (ls : Array Slot), cw_X7 r0 → cw_X7 r1 → uw_M D vwCl (cX vl) q (tw_A (cX vl) u) s.heap u z H locs → lv_has ls 4 [(0, .ref (u r0)), (1, .ref (u r1)), (2, .int x2), (3, .int x3)] → c_X7_append vl K k 1 x2 x3 r0 r1 z = some z1 → W p l e ({ frames := 1, cells := 0, slots := 0, locals := 60 } : Room) s m args below meth c H locs 0 0 QQ (F0 m 9 ls [])) := by
    intro k
    induction k with
    | zero => exact ⟨fun _ _ _ _ _ _ _ _ _ _ _ _ hq => cw_no hq, fun _ _ _ _ _ _ _ _ _ _ _ _ hq => cw_no hq⟩
    | succ k ih =>
      obtain ⟨ih_0, ih_1⟩ := ih
      refine ⟨?_, ?_⟩
      · intro x2 x3 r0 r1 z H locs ls hr0 hr1 hM hl hq
        have hq : cm_X7_append_0 vl K (c_X7_append vl K k) x2 x3 r0 r1 z = some z1 := hq
        unfold cm_X7_append_0 at hq
        refine lv_iconst (v := 2) hx hb dcX7_append_0 (by decide) ?_
        refine lv_aload_n hx hb dcX7_append_1 rfl (lv_at hl 0 rfl) ?_
        refine vgX7_39 hx hb hT hown hK hM hr0 hq dcX7_append_2 (fun v1 hq => ?_)
        refine lv_imul hx hb dcX7_append_5 ?_
        refine lv_istore_n (lv' := [(2, .int (2 * v1)), (0, .ref (u r0)), (1, .ref (u r1))]) hx hb dcX7_append_6 rfl hl (by decide) rfl (fun ls hl => ?_)
        refine lv_iconst (v := 0) hx hb dcX7_append_7 (by decide) ?_
        refine lv_istore_n (lv' := [(3, .int 0), (2, .int (2 * v1)), (0, .ref (u r0)), (1, .ref (u r1))]) hx hb dcX7_append_8 rfl hl (by decide) rfl (fun ls hl => ?_)
        exact ih_1 (2 * v1) 0 r0 r1 z H locs ls hr0 hr1 hM (lv_sub hl [2, 3, 1, 0] rfl) hq
      · intro x2 x3 r0 r1 z H locs ls hr0 hr1 hM hl hq
        have hq : cm_X7_append_1 vl K (c_X7_append vl K k) x2 x3 r0 r1 z = some z1 := hq
        unfold cm_X7_append_1 at hq
        refine lv_iload_n hx hb dcX7_append_9 rfl (lv_at hl 3 rfl) ?_
        refine lv_iconst (v := 2) hx hb dcX7_append_10 (by decide) ?_
        refine lv_aload_n hx hb dcX7_append_11 rfl (lv_at hl 1 rfl) ?_
        refine vgX7_39 hx hb hT hown hK hM hr1 hq dcX7_append_12 (fun v2 hq => ?_)
        refine lv_imul hx hb dcX7_append_15 ?_
        refine lv_icmp_ge (tgt := 57) hx hb dcX7_append_16 (by decide) (fun hc => ?_) (fun hc => ?_)
        · have hq := tw_it hq hc
          refine lv_aload_n hx hb dcX7_append_57 rfl (lv_at hl 1 rfl) ?_
          refine vgX7_18 hx hb hT hown hK hM hr1 dcX7_append_58 ?_
          refine lv_iconst (v := 0) hx hb dcX7_append_61 (by decide) ?_
          refine lv_aload_n hx hb dcX7_append_62 rfl (lv_at hl 0 rfl) ?_
          refine vgX7_18 hx hb hT hown hK hM hr0 dcX7_append_63 ?_
          refine lv_aload_n hx hb dcX7_append_66 rfl (lv_at hl 0 rfl) ?_
          refine vgX7_39 hx hb hT hown hK hM hr0 hq dcX7_append_67 (fun v3 hq => ?_)
          refine lv_aload_n hx hb dcX7_append_70 rfl (lv_at hl 1 rfl) ?_
          refine vgX7_39 hx hb hT hown hK hM hr1 hq dcX7_append_71 (fun v4 hq => ?_)
          refine uw_cpI cX_ok hU hx hb (by rw [hml]; exact hl.1.symm) hown (hT _ xq_129) (hT _ xq_130) (hT _ xq_131) (hT _ xq_132) hK hM (cr_X7_2 hr1) (cr_X7_2 hr0) hq (Nat.le_of_ble_eq_true rfl) (by decide) dcX7_append_74 (fun z5 H locs hM hq => ?_)
          refine lv_aload_n hx hb dcX7_append_77 rfl (lv_at hl 0 rfl) ?_
          refine lv_dup hx hb dcX7_append_78 rfl ?_
          refine vgX7_39 hx hb hT hown hK hM hr0 hq dcX7_append_79 (fun v6 hq => ?_)
          refine lv_aload_n hx hb dcX7_append_82 rfl (lv_at hl 1 rfl) ?_
          refine vgX7_39 hx hb hT hown hK hM hr1 hq dcX7_append_83 (fun v7 hq => ?_)
          refine lv_iadd hx hb dcX7_append_86 ?_
          refine vpX7_39 hx hb hT hown hK hM hU hr0 hq dcX7_append_87 (fun z8 H locs hM hq => ?_)
          refine lv_aload_n hx hb dcX7_append_90 rfl (lv_at hl 0 rfl) ?_
          refine lv_dup hx hb dcX7_append_91 rfl ?_
          refine vgX7_42 hx hb hT hown hK hM hr0 hq dcX7_append_92 (fun v9 hq => ?_)
          refine lv_aload_n hx hb dcX7_append_95 rfl (lv_at hl 1 rfl) ?_
          refine vgX7_42 hx hb hT hown hK hM hr1 hq dcX7_append_96 (fun v10 hq => ?_)
          refine lv_iadd hx hb dcX7_append_99 ?_
          refine vpX7_42 hx hb hT hown hK hM hU hr0 hq dcX7_append_100 (fun z11 H locs hM hq => ?_)
          exact cw_vret hx hb hr hlocks hM hq hQQ dcX7_append_103
        · have hq := tw_if hq hc
          refine lv_aload_n hx hb dcX7_append_19 rfl (lv_at hl 0 rfl) ?_
          refine vgX7_9 hx hb hT hown hK hM hr0 dcX7_append_20 ?_
          refine lv_iload_n hx hb dcX7_append_23 rfl (lv_at hl 2 rfl) ?_
          refine lv_iload_n hx hb dcX7_append_24 rfl (lv_at hl 3 rfl) ?_
          refine lv_iadd hx hb dcX7_append_25 ?_
          refine lv_iload_n hx hb dcX7_append_26 rfl (lv_at hl 2 rfl) ?_
          refine lv_aload_n hx hb dcX7_append_27 rfl (lv_at hl 1 rfl) ?_
          refine vgX7_9 hx hb hT hown hK hM hr1 dcX7_append_28 ?_
          refine lv_iload_n hx hb dcX7_append_31 rfl (lv_at hl 3 rfl) ?_
          refine uw_iald cX_ok hx hb hK hM (cr_X7_0 hr1) hq dcX7_append_32 (fun v12 hq => ?_)
          refine lv_iadd hx hb dcX7_append_33 ?_
          refine uw_iast cX_ok hU hx hb hK hM (cr_X7_0 hr0) hq dcX7_append_34 (fun z13 H locs hM hq => ?_)
          refine lv_aload_n hx hb dcX7_append_35 rfl (lv_at hl 0 rfl) ?_
          refine vgX7_15 hx hb hT hown hK hM hr0 dcX7_append_36 ?_
          refine lv_iload_n hx hb dcX7_append_39 rfl (lv_at hl 2 rfl) ?_
          refine lv_iload_n hx hb dcX7_append_40 rfl (lv_at hl 3 rfl) ?_
          refine lv_iadd hx hb dcX7_append_41 ?_
          refine lv_iload_n hx hb dcX7_append_42 rfl (lv_at hl 2 rfl) ?_
          refine lv_aload_n hx hb dcX7_append_43 rfl (lv_at hl 1 rfl) ?_
          refine vgX7_15 hx hb hT hown hK hM hr1 dcX7_append_44 ?_
          refine lv_iload_n hx hb dcX7_append_47 rfl (lv_at hl 3 rfl) ?_
          refine uw_iald cX_ok hx hb hK hM (cr_X7_1 hr1) hq dcX7_append_48 (fun v14 hq => ?_)
          refine lv_iadd hx hb dcX7_append_49 ?_
          refine uw_iast cX_ok hU hx hb hK hM (cr_X7_1 hr0) hq dcX7_append_50 (fun z15 H locs hM hq => ?_)
          refine lv_iinc (v := (x3 + 1)) (lv' := [(3, .int (x3 + 1)), (0, .ref (u r0)), (1, .ref (u r1)), (2, .int x2)]) hx hb dcX7_append_51 hl (k := 3) rfl rfl (by decide) rfl (fun ls hl => ?_)
          refine lv_goto (tgt := 9) hx hb dcX7_append_54 (by decide) ?_
          exact ih_1 x2 (x3 + 1) r0 r1 z15 H locs ls hr0 hr1 hM (lv_sub hl [1, 2, 3, 0] rfl) hq
  exact (key K).1 0 0 r0 r1 z s.heap [] ls hr0 hr1 hM (lv_sub hl [0, 1] rfl) hq
theorem dcX7_exchange_0 : decode cX7_exchange 0 = .ok (.aload_n 0, 1) := by decide +kernel
theorem dcX7_exchange_1 : decode cX7_exchange 1 = .ok (.getfield 9, 3) := by decide +kernel
theorem dcX7_exchange_4 : decode cX7_exchange 4 = .ok (.iload_n 1, 1) := by decide +kernel
theorem dcX7_exchange_5 : decode cX7_exchange 5 = .ok (.iaload, 1) := by decide +kernel
theorem dcX7_exchange_6 : decode cX7_exchange 6 = .ok (.istore_n 3, 1) := by decide +kernel
theorem dcX7_exchange_7 : decode cX7_exchange 7 = .ok (.aload_n 0, 1) := by decide +kernel
theorem dcX7_exchange_8 : decode cX7_exchange 8 = .ok (.iload_n 1, 1) := by decide +kernel
theorem dcX7_exchange_9 : decode cX7_exchange 9 = .ok (.aload_n 0, 1) := by decide +kernel
theorem dcX7_exchange_10 : decode cX7_exchange 10 = .ok (.getfield 9, 3) := by decide +kernel
theorem dcX7_exchange_13 : decode cX7_exchange 13 = .ok (.iload_n 2, 1) := by decide +kernel
theorem dcX7_exchange_14 : decode cX7_exchange 14 = .ok (.iaload, 1) := by decide +kernel
theorem dcX7_exchange_15 : decode cX7_exchange 15 = .ok (.invokevirtual 54, 3) := by decide +kernel
theorem dcX7_exchange_18 : decode cX7_exchange 18 = .ok (.aload_n 0, 1) := by decide +kernel
theorem dcX7_exchange_19 : decode cX7_exchange 19 = .ok (.iload_n 2, 1) := by decide +kernel
theorem dcX7_exchange_20 : decode cX7_exchange 20 = .ok (.iload_n 3, 1) := by decide +kernel
theorem dcX7_exchange_21 : decode cX7_exchange 21 = .ok (.invokevirtual 54, 3) := by decide +kernel
theorem dcX7_exchange_24 : decode cX7_exchange 24 = .ok (.return_, 1) := by decide +kernel
def cm_X7_exchange_0 (vl : Nat → Nat) (K : Nat) (x1 : Int32) (x2 : Int32) (r0 : Nat) (z : ow_MS) : Option ow_MS :=
 crI (cX vl) z (r0 + 1) x1 fun v1 => crI (cX vl) z (r0 + 1) x2 fun v2 => cs0 (ce_X7_link vl K r0 x1 v2 z) fun z3 => cs0 (ce_X7_link vl K r0 x2 v1 z3) fun z4 => some z4
def ce_X7_exchange (vl : Nat → Nat) (K : Nat) (r0 : Nat) (x1 : Int32) (x2 : Int32) (z : ow_MS) : Option ow_MS := cm_X7_exchange_0 vl K x1 x2 r0 z
abbrev wc_X7_exchange : List Cond := .code yX7_exchange cX7_exchange 4 none :: wC
theorem cdd_X7_exchange : yX7_exchange.cls = RX7 ∧ yX7_exchange.cls ≠ "java/lang/invoke/MethodHandle" ∧ yX7_exchange.cls ≠ "java/lang/invoke/VarHandle" ∧ (parseMethodDescriptor yX7_exchange.desc).map (fun d => d.parameters.length) = some 2 := by decide +kernel
set_option maxHeartbeats 4000000 in
set_option maxRecDepth 100000 in
theorem kc_X7_exchange (l : Launch) (D : va_G) (q : Nat → ClassId) (vl u : Nat → Nat) (hU0 : tw_inj (cX vl) u) (K : Nat) (r0 : Nat) (x1 : Int32) (x2 : Int32) (hr0 : cw_X7 r0) (z z1 : ow_MS) (hq : ce_X7_exchange vl K r0 x1 x2 z = some z1) : Met l yX7_exchange wc_X7_exchange ({ frames := 1, cells := 0, slots := 0, locals := 22 } : Room) (va_Pc [.ref (u r0), .int x1, .int x2] (cw_pre D q vl u z)) (va_Qv (fun (_ : Unit) => True) (fun _ t => va_P D vwCl (uw (cX vl) q u z1) t.heap) (tw_A (cX vl) u)) 0 0 (tw_A (cX vl) u) := by
  refine Met.ofW (cc := cX7_exchange) (maxL := 4) (ret := none) (by decide) rfl ?_
  intro p e s m args below meth c s₁ B hml hv
  obtain ⟨rfl, hP, hK⟩ := hv
  have hx := B.exec
  have hb := B.bytes
  have hr := B.returns
  have hts := atoms_spec (ws := wc_X7_exchange) B.pre
  have hT : ∀ w ∈ wC, w.before ([.ref (u r0), .int x1, .int x2] : List Value).toArray s = true := fun w h => hts w (List.mem_cons_of_mem _ h)
  have hown : s.vm.findClass RX7 = some m.cls := findClass_of_methodNamed B.named
  have hlocks := B.notSynchronized
  have hU : uw_inj (cX vl) u (tw_A (cX vl) u) := ⟨hU0, fun h hh => ⟨h, hh, rfl⟩⟩
  have hM : uw_M D vwCl (cX vl) q (tw_A (cX vl) u) s.heap u z s.heap [] := ⟨hP, va_S.rf⟩
  have hl := lv_entry ([.ref (u r0), .int x1, .int x2]) (n := 4) (Nat.le_of_ble_eq_true rfl)
  rw [lg_entry_eq]
  generalize (lg_sl ([.ref (u r0), .int x1, .int x2]) ++ List.replicate (4 - (lg_sl ([.ref (u r0), .int x1, .int x2])).length) Slot.unset).toArray = ls at hl ⊢
  have hl : lv_has ls 4 [(0, .ref (u r0)), (1, .int x1), (2, .int x2)] := hl
  refine ow_named (fun QQ hQQ => ?_)
  generalize ([.ref (u r0), .int x1, .int x2] : List Value).toArray = args at hts hT hQQ ⊢
  have hq : cm_X7_exchange_0 vl K x1 x2 r0 z = some z1 := hq
  unfold cm_X7_exchange_0 at hq
  suffices key : ∀ (H : Heap) (locs : List Loc), uw_M D vwCl (cX vl) q (tw_A (cX vl) u) s.heap u z H locs → W p l e ({ frames := 1, cells := 0, slots := 0, locals := 22 } : Room) s m args below meth c H locs 0 0 QQ (F0 m 0 ls []) from key s.heap [] hM
  intro H locs hM
  refine lv_aload_n hx hb dcX7_exchange_0 rfl (lv_at hl 0 rfl) ?_
  refine vgX7_9 hx hb hT hown hK hM hr0 dcX7_exchange_1 ?_
  refine lv_iload_n hx hb dcX7_exchange_4 rfl (lv_at hl 1 rfl) ?_
  refine uw_iald cX_ok hx hb hK hM (cr_X7_0 hr0) hq dcX7_exchange_5 (fun v1 hq => ?_)
  refine lv_istore_n (lv' := [(3, .int v1), (0, .ref (u r0)), (1, .int x1), (2, .int x2)]) hx hb dcX7_exchange_6 rfl hl (by decide) rfl (fun ls hl => ?_)
  refine lv_aload_n hx hb dcX7_exchange_7 rfl (lv_at hl 1 rfl) ?_
  refine lv_iload_n hx hb dcX7_exchange_8 rfl (lv_at hl 2 rfl) ?_
  refine lv_aload_n hx hb dcX7_exchange_9 rfl (lv_at hl 1 rfl) ?_
  refine vgX7_9 hx hb hT hown hK hM hr0 dcX7_exchange_10 ?_
  refine lv_iload_n hx hb dcX7_exchange_13 rfl (lv_at hl 3 rfl) ?_
  refine uw_iald cX_ok hx hb hK hM (cr_X7_0 hr0) hq dcX7_exchange_14 (fun v2 hq => ?_)
  obtain ⟨z3, hcq, hq⟩ := tw_cl0 hq
  refine uw_calv hU hM (va_runV (As := [.int x1, .int v2]) (rest := []) ⟨hx, hb, hml, hown, hts⟩ (kc_X7_link l D q vl u hU.1 K r0 x1 v2 hr0 z z3 hcq) (cwV 2 hts (tw_gV wC_good xq_160 xq_161 xq_162 xq_54 xq_163) rfl rfl rfl cdd_X7_link ⟨(Nat.le_of_ble_eq_true rfl), (Nat.le_of_ble_eq_true rfl)⟩) (cw_preV hK hM (co_X7 hr0) rfl) rfl rfl hl.1 rfl (lv_room (Nat.le_of_ble_eq_true rfl)) dcX7_exchange_15 ⟨(Nat.le_of_ble_eq_true rfl), (Nat.le_of_ble_eq_true rfl)⟩) (fun H locs hM => ?_)
  refine lv_aload_n hx hb dcX7_exchange_18 rfl (lv_at hl 1 rfl) ?_
  refine lv_iload_n hx hb dcX7_exchange_19 rfl (lv_at hl 3 rfl) ?_
  refine lv_iload_n hx hb dcX7_exchange_20 rfl (lv_at hl 0 rfl) ?_
  obtain ⟨z4, hcq, hq⟩ := tw_cl0 hq
  refine uw_calv hU hM (va_runV (As := [.int x2, .int v1]) (rest := []) ⟨hx, hb, hml, hown, hts⟩ (kc_X7_link l D q vl u hU.1 K r0 x2 v1 hr0 z3 z4 hcq) (cwV 2 hts (tw_gV wC_good xq_160 xq_161 xq_162 xq_54 xq_163) rfl rfl rfl cdd_X7_link ⟨(Nat.le_of_ble_eq_true rfl), (Nat.le_of_ble_eq_true rfl)⟩) (cw_preV hK hM (co_X7 hr0) rfl) rfl rfl hl.1 rfl (lv_room (Nat.le_of_ble_eq_true rfl)) dcX7_exchange_21 ⟨(Nat.le_of_ble_eq_true rfl), (Nat.le_of_ble_eq_true rfl)⟩) (fun H locs hM => ?_)
  exact cw_vret hx hb hr hlocks hM hq hQQ dcX7_exchange_24
theorem dcX7_smoothCrossing_0 : decode cX7_smoothCrossing 0 = .ok (.aload_n 0, 1) := by decide +kernel
theorem dcX7_smoothCrossing_1 : decode cX7_smoothCrossing 1 = .ok (.iconst 2, 1) := by decide +kernel
theorem dcX7_smoothCrossing_2 : decode cX7_smoothCrossing 2 = .ok (.iload_n 1, 1) := by decide +kernel
theorem dcX7_smoothCrossing_3 : decode cX7_smoothCrossing 3 = .ok (.imul, 1) := by decide +kernel
theorem dcX7_smoothCrossing_4 : decode cX7_smoothCrossing 4 = .ok (.iconst 2, 1) := by decide +kernel
theorem dcX7_smoothCrossing_5 : decode cX7_smoothCrossing 5 = .ok (.iload_n 1, 1) := by decide +kernel
theorem dcX7_smoothCrossing_6 : decode cX7_smoothCrossing 6 = .ok (.imul, 1) := by decide +kernel
theorem dcX7_smoothCrossing_7 : decode cX7_smoothCrossing 7 = .ok (.iconst 1, 1) := by decide +kernel
theorem dcX7_smoothCrossing_8 : decode cX7_smoothCrossing 8 = .ok (.iadd, 1) := by decide +kernel
theorem dcX7_smoothCrossing_9 : decode cX7_smoothCrossing 9 = .ok (.invokevirtual 71, 3) := by decide +kernel
theorem dcX7_smoothCrossing_12 : decode cX7_smoothCrossing 12 = .ok (.aload_n 0, 1) := by decide +kernel
theorem dcX7_smoothCrossing_13 : decode cX7_smoothCrossing 13 = .ok (.iload_n 1, 1) := by decide +kernel
theorem dcX7_smoothCrossing_14 : decode cX7_smoothCrossing 14 = .ok (.invokevirtual 74, 3) := by decide +kernel
theorem dcX7_smoothCrossing_17 : decode cX7_smoothCrossing 17 = .ok (.return_, 1) := by decide +kernel
def cm_X7_smoothCrossing_0 (vl : Nat → Nat) (K : Nat) (x1 : Int32) (r0 : Nat) (z : ow_MS) : Option ow_MS :=
 cs0 (ce_X7_exchange vl K r0 (2 * x1) ((2 * x1) + 1) z) fun z1 => cs0 (ce_X7_removeCrossing vl K r0 x1 z1) fun z2 => some z2
def ce_X7_smoothCrossing (vl : Nat → Nat) (K : Nat) (r0 : Nat) (x1 : Int32) (z : ow_MS) : Option ow_MS := cm_X7_smoothCrossing_0 vl K x1 r0 z
abbrev wc_X7_smoothCrossing : List Cond := .code yX7_smoothCrossing cX7_smoothCrossing 2 none :: wC
theorem cdd_X7_smoothCrossing : yX7_smoothCrossing.cls = RX7 ∧ yX7_smoothCrossing.cls ≠ "java/lang/invoke/MethodHandle" ∧ yX7_smoothCrossing.cls ≠ "java/lang/invoke/VarHandle" ∧ (parseMethodDescriptor yX7_smoothCrossing.desc).map (fun d => d.parameters.length) = some 1 := by decide +kernel
set_option maxHeartbeats 4000000 in
set_option maxRecDepth 100000 in
theorem kc_X7_smoothCrossing (l : Launch) (D : va_G) (q : Nat → ClassId) (vl u : Nat → Nat) (hU0 : tw_inj (cX vl) u) (K : Nat) (r0 : Nat) (x1 : Int32) (hr0 : cw_X7 r0) (z z1 : ow_MS) (hq : ce_X7_smoothCrossing vl K r0 x1 z = some z1) : Met l yX7_smoothCrossing wc_X7_smoothCrossing ({ frames := 3, cells := 0, slots := 0, locals := 65 } : Room) (va_Pc [.ref (u r0), .int x1] (cw_pre D q vl u z)) (va_Qv (fun (_ : Unit) => True) (fun _ t => va_P D vwCl (uw (cX vl) q u z1) t.heap) (tw_A (cX vl) u)) 0 0 (tw_A (cX vl) u) := by
  refine Met.ofW (cc := cX7_smoothCrossing) (maxL := 2) (ret := none) (by decide) rfl ?_
  intro p e s m args below meth c s₁ B hml hv
  obtain ⟨rfl, hP, hK⟩ := hv
  have hx := B.exec
  have hb := B.bytes
  have hr := B.returns
  have hts := atoms_spec (ws := wc_X7_smoothCrossing) B.pre
  have hT : ∀ w ∈ wC, w.before ([.ref (u r0), .int x1] : List Value).toArray s = true := fun w h => hts w (List.mem_cons_of_mem _ h)
  have hown : s.vm.findClass RX7 = some m.cls := findClass_of_methodNamed B.named
  have hlocks := B.notSynchronized
  have hU : uw_inj (cX vl) u (tw_A (cX vl) u) := ⟨hU0, fun h hh => ⟨h, hh, rfl⟩⟩
  have hM : uw_M D vwCl (cX vl) q (tw_A (cX vl) u) s.heap u z s.heap [] := ⟨hP, va_S.rf⟩
  have hl := lv_entry ([.ref (u r0), .int x1]) (n := 2) (Nat.le_of_ble_eq_true rfl)
  rw [lg_entry_eq]
  generalize (lg_sl ([.ref (u r0), .int x1]) ++ List.replicate (2 - (lg_sl ([.ref (u r0), .int x1])).length) Slot.unset).toArray = ls at hl ⊢
  have hl : lv_has ls 2 [(0, .ref (u r0)), (1, .int x1)] := hl
  refine ow_named (fun QQ hQQ => ?_)
  generalize ([.ref (u r0), .int x1] : List Value).toArray = args at hts hT hQQ ⊢
  have hq : cm_X7_smoothCrossing_0 vl K x1 r0 z = some z1 := hq
  unfold cm_X7_smoothCrossing_0 at hq
  suffices key : ∀ (H : Heap) (locs : List Loc), uw_M D vwCl (cX vl) q (tw_A (cX vl) u) s.heap u z H locs → W p l e ({ frames := 3, cells := 0, slots := 0, locals := 65 } : Room) s m args below meth c H locs 0 0 QQ (F0 m 0 ls []) from key s.heap [] hM
  intro H locs hM
  refine lv_aload_n hx hb dcX7_smoothCrossing_0 rfl (lv_at hl 0 rfl) ?_
  refine lv_iconst (v := 2) hx hb dcX7_smoothCrossing_1 (by decide) ?_
  refine lv_iload_n hx hb dcX7_smoothCrossing_2 rfl (lv_at hl 1 rfl) ?_
  refine lv_imul hx hb dcX7_smoothCrossing_3 ?_
  refine lv_iconst (v := 2) hx hb dcX7_smoothCrossing_4 (by decide) ?_
  refine lv_iload_n hx hb dcX7_smoothCrossing_5 rfl (lv_at hl 1 rfl) ?_
  refine lv_imul hx hb dcX7_smoothCrossing_6 ?_
  refine lv_iconst (v := 1) hx hb dcX7_smoothCrossing_7 (by decide) ?_
  refine lv_iadd hx hb dcX7_smoothCrossing_8 ?_
  obtain ⟨z1, hcq, hq⟩ := tw_cl0 hq
  refine uw_calv hU hM (va_runV (As := [.int (2 * x1), .int ((2 * x1) + 1)]) (rest := []) ⟨hx, hb, hml, hown, hts⟩ (kc_X7_exchange l D q vl u hU.1 K r0 (2 * x1) ((2 * x1) + 1) hr0 z z1 hcq) (cwV 2 hts (tw_gV wC_good xq_570 xq_571 xq_572 xq_54 xq_569) rfl rfl rfl cdd_X7_exchange ⟨(Nat.le_of_ble_eq_true rfl), (Nat.le_of_ble_eq_true rfl)⟩) (cw_preV hK hM (co_X7 hr0) rfl) rfl rfl hl.1 rfl (lv_room (Nat.le_of_ble_eq_true rfl)) dcX7_smoothCrossing_9 ⟨(Nat.le_of_ble_eq_true rfl), (Nat.le_of_ble_eq_true rfl)⟩) (fun H locs hM => ?_)
  refine lv_aload_n hx hb dcX7_smoothCrossing_12 rfl (lv_at hl 0 rfl) ?_
  refine lv_iload_n hx hb dcX7_smoothCrossing_13 rfl (lv_at hl 1 rfl) ?_
  obtain ⟨z2, hcq, hq⟩ := tw_cl0 hq
  refine uw_calv hU hM (va_runV (As := [.int x1]) (rest := []) ⟨hx, hb, hml, hown, hts⟩ (kc_X7_removeCrossing l D q vl u hU.1 K r0 x1 hr0 z1 z2 hcq) (cwV 1 hts (tw_gV wC_good xq_573 xq_153 xq_154 xq_54 xq_155) rfl rfl rfl cdd_X7_removeCrossing ⟨(Nat.le_of_ble_eq_true rfl), (Nat.le_of_ble_eq_true rfl)⟩) (cw_preV hK hM (co_X7 hr0) rfl) rfl rfl hl.1 rfl (lv_room (Nat.le_of_ble_eq_true rfl)) dcX7_smoothCrossing_14 ⟨(Nat.le_of_ble_eq_true rfl), (Nat.le_of_ble_eq_true rfl)⟩) (fun H locs hM => ?_)
  exact cw_vret hx hb hr hlocks hM hq hQQ dcX7_smoothCrossing_17
theorem dcX7_flipCrossing_0 : decode cX7_flipCrossing 0 = .ok (.aload_n 0, 1) := by decide +kernel
theorem dcX7_flipCrossing_1 : decode cX7_flipCrossing 1 = .ok (.iconst 2, 1) := by decide +kernel
theorem dcX7_flipCrossing_2 : decode cX7_flipCrossing 2 = .ok (.iload_n 1, 1) := by decide +kernel
theorem dcX7_flipCrossing_3 : decode cX7_flipCrossing 3 = .ok (.imul, 1) := by decide +kernel
theorem dcX7_flipCrossing_4 : decode cX7_flipCrossing 4 = .ok (.iconst 2, 1) := by decide +kernel
theorem dcX7_flipCrossing_5 : decode cX7_flipCrossing 5 = .ok (.iload_n 1, 1) := by decide +kernel
theorem dcX7_flipCrossing_6 : decode cX7_flipCrossing 6 = .ok (.imul, 1) := by decide +kernel
theorem dcX7_flipCrossing_7 : decode cX7_flipCrossing 7 = .ok (.iconst 1, 1) := by decide +kernel
theorem dcX7_flipCrossing_8 : decode cX7_flipCrossing 8 = .ok (.iadd, 1) := by decide +kernel
theorem dcX7_flipCrossing_9 : decode cX7_flipCrossing 9 = .ok (.invokevirtual 81, 3) := by decide +kernel
theorem dcX7_flipCrossing_12 : decode cX7_flipCrossing 12 = .ok (.aload_n 0, 1) := by decide +kernel
theorem dcX7_flipCrossing_13 : decode cX7_flipCrossing 13 = .ok (.getfield 18, 3) := by decide +kernel
theorem dcX7_flipCrossing_16 : decode cX7_flipCrossing 16 = .ok (.iload_n 1, 1) := by decide +kernel
theorem dcX7_flipCrossing_17 : decode cX7_flipCrossing 17 = .ok (.aload_n 0, 1) := by decide +kernel
theorem dcX7_flipCrossing_18 : decode cX7_flipCrossing 18 = .ok (.getfield 18, 3) := by decide +kernel
theorem dcX7_flipCrossing_21 : decode cX7_flipCrossing 21 = .ok (.iload_n 1, 1) := by decide +kernel
theorem dcX7_flipCrossing_22 : decode cX7_flipCrossing 22 = .ok (.iaload, 1) := by decide +kernel
theorem dcX7_flipCrossing_23 : decode cX7_flipCrossing 23 = .ok (.ineg, 1) := by decide +kernel
theorem dcX7_flipCrossing_24 : decode cX7_flipCrossing 24 = .ok (.iastore, 1) := by decide +kernel
theorem dcX7_flipCrossing_25 : decode cX7_flipCrossing 25 = .ok (.return_, 1) := by decide +kernel
def cm_X7_flipCrossing_0 (vl : Nat → Nat) (K : Nat) (x1 : Int32) (r0 : Nat) (z : ow_MS) : Option ow_MS :=
 cs0 (ce_X7_swapPlaces vl K r0 (2 * x1) ((2 * x1) + 1) z) fun z1 => crI (cX vl) z1 (r0 + 3) x1 fun v2 => ctI (cX vl) z1 (r0 + 3) x1 (-v2) fun z3 => some z3
def ce_X7_flipCrossing (vl : Nat → Nat) (K : Nat) (r0 : Nat) (x1 : Int32) (z : ow_MS) : Option ow_MS := cm_X7_flipCrossing_0 vl K x1 r0 z
abbrev wc_X7_flipCrossing : List Cond := .code yX7_flipCrossing cX7_flipCrossing 2 none :: wC
theorem cdd_X7_flipCrossing : yX7_flipCrossing.cls = RX7 ∧ yX7_flipCrossing.cls ≠ "java/lang/invoke/MethodHandle" ∧ yX7_flipCrossing.cls ≠ "java/lang/invoke/VarHandle" ∧ (parseMethodDescriptor yX7_flipCrossing.desc).map (fun d => d.parameters.length) = some 1 := by decide +kernel
set_option maxHeartbeats 4000000 in
set_option maxRecDepth 100000 in
theorem kc_X7_flipCrossing (l : Launch) (D : va_G) (q : Nat → ClassId) (vl u : Nat → Nat) (hU0 : tw_inj (cX vl) u) (K : Nat) (r0 : Nat) (x1 : Int32) (hr0 : cw_X7 r0) (z z1 : ow_MS) (hq : ce_X7_flipCrossing vl K r0 x1 z = some z1) : Met l yX7_flipCrossing wc_X7_flipCrossing ({ frames := 2, cells := 0, slots := 0, locals := 48 } : Room) (va_Pc [.ref (u r0), .int x1] (cw_pre D q vl u z)) (va_Qv (fun (_ : Unit) => True) (fun _ t => va_P D vwCl (uw (cX vl) q u z1) t.heap) (tw_A (cX vl) u)) 0 0 (tw_A (cX vl) u) := by
  refine Met.ofW (cc := cX7_flipCrossing) (maxL := 2) (ret := none) (by decide) rfl ?_
  intro p e s m args below meth c s₁ B hml hv
  obtain ⟨rfl, hP, hK⟩ := hv
  have hx := B.exec
  have hb := B.bytes
  have hr := B.returns
  have hts := atoms_spec (ws := wc_X7_flipCrossing) B.pre
  have hT : ∀ w ∈ wC, w.before ([.ref (u r0), .int x1] : List Value).toArray s = true := fun w h => hts w (List.mem_cons_of_mem _ h)
  have hown : s.vm.findClass RX7 = some m.cls := findClass_of_methodNamed B.named
  have hlocks := B.notSynchronized
  have hU : uw_inj (cX vl) u (tw_A (cX vl) u) := ⟨hU0, fun h hh => ⟨h, hh, rfl⟩⟩
  have hM : uw_M D vwCl (cX vl) q (tw_A (cX vl) u) s.heap u z s.heap [] := ⟨hP, va_S.rf⟩
  have hl := lv_entry ([.ref (u r0), .int x1]) (n := 2) (Nat.le_of_ble_eq_true rfl)
  rw [lg_entry_eq]
  generalize (lg_sl ([.ref (u r0), .int x1]) ++ List.replicate (2 - (lg_sl ([.ref (u r0), .int x1])).length) Slot.unset).toArray = ls at hl ⊢
  have hl : lv_has ls 2 [(0, .ref (u r0)), (1, .int x1)] := hl
  refine ow_named (fun QQ hQQ => ?_)
  generalize ([.ref (u r0), .int x1] : List Value).toArray = args at hts hT hQQ ⊢
  have hq : cm_X7_flipCrossing_0 vl K x1 r0 z = some z1 := hq
  unfold cm_X7_flipCrossing_0 at hq
  suffices key : ∀ (H : Heap) (locs : List Loc), uw_M D vwCl (cX vl) q (tw_A (cX vl) u) s.heap u z H locs → W p l e ({ frames := 2, cells := 0, slots := 0, locals := 48 } : Room) s m args below meth c H locs 0 0 QQ (F0 m 0 ls []) from key s.heap [] hM
  intro H locs hM
  refine lv_aload_n hx hb dcX7_flipCrossing_0 rfl (lv_at hl 0 rfl) ?_
  refine lv_iconst (v := 2) hx hb dcX7_flipCrossing_1 (by decide) ?_
  refine lv_iload_n hx hb dcX7_flipCrossing_2 rfl (lv_at hl 1 rfl) ?_
  refine lv_imul hx hb dcX7_flipCrossing_3 ?_
  refine lv_iconst (v := 2) hx hb dcX7_flipCrossing_4 (by decide) ?_
  refine lv_iload_n hx hb dcX7_flipCrossing_5 rfl (lv_at hl 1 rfl) ?_
  refine lv_imul hx hb dcX7_flipCrossing_6 ?_
  refine lv_iconst (v := 1) hx hb dcX7_flipCrossing_7 (by decide) ?_
  refine lv_iadd hx hb dcX7_flipCrossing_8 ?_
  obtain ⟨z1, hcq, hq⟩ := tw_cl0 hq
  refine uw_calv hU hM (va_runV (As := [.int (2 * x1), .int ((2 * x1) + 1)]) (rest := []) ⟨hx, hb, hml, hown, hts⟩ (kc_X7_swapPlaces l D q vl u hU.1 K r0 (2 * x1) ((2 * x1) + 1) hr0 z z1 hcq) (cwV 2 hts (tw_gV wC_good xq_575 xq_547 xq_548 xq_54 xq_549) rfl rfl rfl cdd_X7_swapPlaces ⟨(Nat.le_of_ble_eq_true rfl), (Nat.le_of_ble_eq_true rfl)⟩) (cw_preV hK hM (co_X7 hr0) rfl) rfl rfl hl.1 rfl (lv_room (Nat.le_of_ble_eq_true rfl)) dcX7_flipCrossing_9 ⟨(Nat.le_of_ble_eq_true rfl), (Nat.le_of_ble_eq_true rfl)⟩) (fun H locs hM => ?_)
  refine lv_aload_n hx hb dcX7_flipCrossing_12 rfl (lv_at hl 0 rfl) ?_
  refine vgX7_18 hx hb hT hown hK hM hr0 dcX7_flipCrossing_13 ?_
  refine lv_iload_n hx hb dcX7_flipCrossing_16 rfl (lv_at hl 1 rfl) ?_
  refine lv_aload_n hx hb dcX7_flipCrossing_17 rfl (lv_at hl 0 rfl) ?_
  refine vgX7_18 hx hb hT hown hK hM hr0 dcX7_flipCrossing_18 ?_
  refine lv_iload_n hx hb dcX7_flipCrossing_21 rfl (lv_at hl 1 rfl) ?_
  refine uw_iald cX_ok hx hb hK hM (cr_X7_2 hr0) hq dcX7_flipCrossing_22 (fun v2 hq => ?_)
  refine lv_ineg hx hb dcX7_flipCrossing_23 ?_
  refine uw_iast cX_ok hU hx hb hK hM (cr_X7_2 hr0) hq dcX7_flipCrossing_24 (fun z3 H locs hM hq => ?_)
  exact cw_vret hx hb hr hlocks hM hq hQQ dcX7_flipCrossing_25
theorem dcX7_turn_0 : decode cX7_turn 0 = .ok (.iconst 0, 1) := dw_at cX7_turn_k0 (p := 0) rfl (by decide +kernel)
theorem dcX7_turn_1 : decode cX7_turn 1 = .ok (.istore_n 2, 1) := dw_at cX7_turn_k0 (p := 1) rfl (by decide +kernel)
theorem dcX7_turn_2 : decode cX7_turn 2 = .ok (.iload_n 2, 1) := dw_at cX7_turn_k0 (p := 2) rfl (by decide +kernel)
theorem dcX7_turn_3 : decode cX7_turn 3 = .ok (.iconst 2, 1) := dw_at cX7_turn_k0 (p := 3) rfl (by decide +kernel)
theorem dcX7_turn_4 : decode cX7_turn 4 = .ok (.aload_n 0, 1) := dw_at cX7_turn_k0 (p := 4) rfl (by decide +kernel)
theorem dcX7_turn_5 : decode cX7_turn 5 = .ok (.getfield 39, 3) := dw_at cX7_turn_k0 (p := 5) rfl (by decide +kernel)
theorem dcX7_turn_8 : decode cX7_turn 8 = .ok (.imul, 1) := dw_at cX7_turn_k0 (p := 8) rfl (by decide +kernel)
theorem dcX7_turn_9 : decode cX7_turn 9 = .ok (.if_icmp .ge 67, 3) := dw_at cX7_turn_k0 (p := 9) rfl (by decide +kernel)
theorem dcX7_turn_12 : decode cX7_turn 12 = .ok (.iload_n 1, 1) := dw_at cX7_turn_k0 (p := 12) rfl (by decide +kernel)
theorem dcX7_turn_13 : decode cX7_turn 13 = .ok (.iconst (-1), 1) := dw_at cX7_turn_k0 (p := 13) rfl (by decide +kernel)
theorem dcX7_turn_14 : decode cX7_turn 14 = .ok (.if_icmp .eq 13, 3) := dw_at cX7_turn_k0 (p := 14) rfl (by decide +kernel)
theorem dcX7_turn_17 : decode cX7_turn 17 = .ok (.aload_n 0, 1) := dw_at cX7_turn_k0 (p := 17) rfl (by decide +kernel)
theorem dcX7_turn_18 : decode cX7_turn 18 = .ok (.getfield 24, 3) := dw_at cX7_turn_k0 (p := 18) rfl (by decide +kernel)
theorem dcX7_turn_21 : decode cX7_turn 21 = .ok (.iload_n 2, 1) := dw_at cX7_turn_k0 (p := 21) rfl (by decide +kernel)
theorem dcX7_turn_22 : decode cX7_turn 22 = .ok (.iaload, 1) := dw_at cX7_turn_k0 (p := 22) rfl (by decide +kernel)
theorem dcX7_turn_23 : decode cX7_turn 23 = .ok (.iload_n 1, 1) := dw_at cX7_turn_k0 (p := 23) rfl (by decide +kernel)
theorem dcX7_turn_24 : decode cX7_turn 24 = .ok (.if_icmp .ne 46, 3) := dw_at cX7_turn_k1 (p := 0) rfl (by decide +kernel)
theorem dcX7_turn_27 : decode cX7_turn 27 = .ok (.aload_n 0, 1) := dw_at cX7_turn_k1 (p := 3) rfl (by decide +kernel)
theorem dcX7_turn_28 : decode cX7_turn 28 = .ok (.getfield 9, 3) := dw_at cX7_turn_k1 (p := 4) rfl (by decide +kernel)
theorem dcX7_turn_31 : decode cX7_turn 31 = .ok (.iload_n 2, 1) := dw_at cX7_turn_k1 (p := 7) rfl (by decide +kernel)
theorem dcX7_turn_32 : decode cX7_turn 32 = .ok (.iaload, 1) := dw_at cX7_turn_k1 (p := 8) rfl (by decide +kernel)
theorem dcX7_turn_33 : decode cX7_turn 33 = .ok (.istore_n 3, 1) := dw_at cX7_turn_k1 (p := 9) rfl (by decide +kernel)
theorem dcX7_turn_34 : decode cX7_turn 34 = .ok (.aload_n 0, 1) := dw_at cX7_turn_k1 (p := 10) rfl (by decide +kernel)
theorem dcX7_turn_35 : decode cX7_turn 35 = .ok (.getfield 9, 3) := dw_at cX7_turn_k1 (p := 11) rfl (by decide +kernel)
theorem dcX7_turn_38 : decode cX7_turn 38 = .ok (.iload_n 2, 1) := dw_at cX7_turn_k1 (p := 14) rfl (by decide +kernel)
theorem dcX7_turn_39 : decode cX7_turn 39 = .ok (.aload_n 0, 1) := dw_at cX7_turn_k1 (p := 15) rfl (by decide +kernel)
theorem dcX7_turn_40 : decode cX7_turn 40 = .ok (.getfield 15, 3) := dw_at cX7_turn_k1 (p := 16) rfl (by decide +kernel)
theorem dcX7_turn_43 : decode cX7_turn 43 = .ok (.iload_n 2, 1) := dw_at cX7_turn_k1 (p := 19) rfl (by decide +kernel)
theorem dcX7_turn_44 : decode cX7_turn 44 = .ok (.iaload, 1) := dw_at cX7_turn_k1 (p := 20) rfl (by decide +kernel)
theorem dcX7_turn_45 : decode cX7_turn 45 = .ok (.iastore, 1) := dw_at cX7_turn_k1 (p := 21) rfl (by decide +kernel)
theorem dcX7_turn_46 : decode cX7_turn 46 = .ok (.aload_n 0, 1) := dw_at cX7_turn_k1 (p := 22) rfl (by decide +kernel)
theorem dcX7_turn_47 : decode cX7_turn 47 = .ok (.getfield 15, 3) := dw_at cX7_turn_k1 (p := 23) rfl (by decide +kernel)
theorem dcX7_turn_50 : decode cX7_turn 50 = .ok (.iload_n 2, 1) := dw_at cX7_turn_k2 (p := 0) rfl (by decide +kernel)
theorem dcX7_turn_51 : decode cX7_turn 51 = .ok (.iload_n 3, 1) := dw_at cX7_turn_k2 (p := 1) rfl (by decide +kernel)
theorem dcX7_turn_52 : decode cX7_turn 52 = .ok (.iastore, 1) := dw_at cX7_turn_k2 (p := 2) rfl (by decide +kernel)
theorem dcX7_turn_53 : decode cX7_turn 53 = .ok (.aload_n 0, 1) := dw_at cX7_turn_k2 (p := 3) rfl (by decide +kernel)
theorem dcX7_turn_54 : decode cX7_turn 54 = .ok (.getfield 18, 3) := dw_at cX7_turn_k2 (p := 4) rfl (by decide +kernel)
theorem dcX7_turn_57 : decode cX7_turn 57 = .ok (.iload_n 2, 1) := dw_at cX7_turn_k2 (p := 7) rfl (by decide +kernel)
theorem dcX7_turn_58 : decode cX7_turn 58 = .ok (.iconst 1, 1) := dw_at cX7_turn_k2 (p := 8) rfl (by decide +kernel)
theorem dcX7_turn_59 : decode cX7_turn 59 = .ok (.ishr, 1) := dw_at cX7_turn_k2 (p := 9) rfl (by decide +kernel)
theorem dcX7_turn_60 : decode cX7_turn 60 = .ok (.aload_n 0, 1) := dw_at cX7_turn_k2 (p := 10) rfl (by decide +kernel)
theorem dcX7_turn_61 : decode cX7_turn 61 = .ok (.getfield 18, 3) := dw_at cX7_turn_k2 (p := 11) rfl (by decide +kernel)
theorem dcX7_turn_64 : decode cX7_turn 64 = .ok (.iload_n 2, 1) := dw_at cX7_turn_k2 (p := 14) rfl (by decide +kernel)
theorem dcX7_turn_65 : decode cX7_turn 65 = .ok (.iconst 1, 1) := dw_at cX7_turn_k2 (p := 15) rfl (by decide +kernel)
theorem dcX7_turn_66 : decode cX7_turn 66 = .ok (.ishr, 1) := dw_at cX7_turn_k2 (p := 16) rfl (by decide +kernel)
theorem dcX7_turn_67 : decode cX7_turn 67 = .ok (.iaload, 1) := dw_at cX7_turn_k2 (p := 17) rfl (by decide +kernel)
theorem dcX7_turn_68 : decode cX7_turn 68 = .ok (.ineg, 1) := dw_at cX7_turn_k2 (p := 18) rfl (by decide +kernel)
theorem dcX7_turn_69 : decode cX7_turn 69 = .ok (.iastore, 1) := dw_at cX7_turn_k2 (p := 19) rfl (by decide +kernel)
theorem dcX7_turn_70 : decode cX7_turn 70 = .ok (.iinc 2 1, 3) := dw_at cX7_turn_k2 (p := 20) rfl (by decide +kernel)
theorem dcX7_turn_73 : decode cX7_turn 73 = .ok (.goto (-71), 3) := dw_at cX7_turn_k2 (p := 23) rfl (by decide +kernel)
theorem dcX7_turn_76 : decode cX7_turn 76 = .ok (.return_, 1) := dw_at cX7_turn_k2 (p := 26) rfl (by decide +kernel)
def cm_X7_turn_0 (vl : Nat → Nat) (K : Nat) (go : Nat → Int32 → Int32 → Nat → ow_MS → Option ow_MS) (x1 : Int32) (x2 : Int32) (r0 : Nat) (z : ow_MS) : Option ow_MS :=
 go 1 x1 0 r0 z
def cm_X7_turn_1 (vl : Nat → Nat) (K : Nat) (go : Nat → Int32 → Int32 → Nat → ow_MS → Option ow_MS) (x1 : Int32) (x2 : Int32) (r0 : Nat) (z : ow_MS) : Option ow_MS :=
 rdF z (r0 + 8) fun v1 => (if (2 * v1) ≤ x2 then some z
 else (if x1 = (-1) then go 2 x1 x2 r0 z
 else crI (cX vl) z (r0 + 5) x2 fun v2 => (if v2 = x1 then go 2 x1 x2 r0 z
 else go 3 x1 x2 r0 z)))
def cm_X7_turn_2 (vl : Nat → Nat) (K : Nat) (go : Nat → Int32 → Int32 → Nat → ow_MS → Option ow_MS) (x1 : Int32) (x2 : Int32) (r0 : Nat) (z : ow_MS) : Option ow_MS :=
 crI (cX vl) z (r0 + 1) x2 fun v3 => crI (cX vl) z (r0 + 2) x2 fun v4 => ctI (cX vl) z (r0 + 1) x2 v4 fun z5 => ctI (cX vl) z5 (r0 + 2) x2 v3 fun z6 => crI (cX vl) z6 (r0 + 3) ((x2 : Int32) >>> ((1 : Int32) &&& 31)) fun v7 => ctI (cX vl) z6 (r0 + 3) ((x2 : Int32) >>> ((1 : Int32) &&& 31)) (-v7) fun z8 => go 3 x1 x2 r0 z8
def cm_X7_turn_3 (vl : Nat → Nat) (K : Nat) (go : Nat → Int32 → Int32 → Nat → ow_MS → Option ow_MS) (x1 : Int32) (x2 : Int32) (r0 : Nat) (z : ow_MS) : Option ow_MS :=
 go 1 x1 (x2 + 1) r0 z
def cb_X7_turn (vl : Nat → Nat) (K : Nat) (go : Nat → Int32 → Int32 → Nat → ow_MS → Option ow_MS) (L : Nat) (x1 : Int32) (x2 : Int32) (r0 : Nat) (z : ow_MS) : Option ow_MS := match L with
  | 0 => cm_X7_turn_0 vl K go x1 x2 r0 z
  | 1 => cm_X7_turn_1 vl K go x1 x2 r0 z
  | 2 => cm_X7_turn_2 vl K go x1 x2 r0 z
  | 3 => cm_X7_turn_3 vl K go x1 x2 r0 z
  | _ => none
def c_X7_turn (vl : Nat → Nat) (K : Nat) : Nat → Nat → Int32 → Int32 → Nat → ow_MS → Option ow_MS
  | 0 => fun _ _ _ _ _ => none
  | k + 1 => cb_X7_turn vl K (c_X7_turn vl K k)
def ce_X7_turn (vl : Nat → Nat) (K : Nat) (r0 : Nat) (x1 : Int32) (z : ow_MS) : Option ow_MS := c_X7_turn vl K K 0 x1 0 r0 z
abbrev wc_X7_turn : List Cond := .code yX7_turn cX7_turn 4 none :: wC
theorem cdd_X7_turn : yX7_turn.cls = RX7 ∧ yX7_turn.cls ≠ "java/lang/invoke/MethodHandle" ∧ yX7_turn.cls ≠ "java/lang/invoke/VarHandle" ∧ (parseMethodDescriptor yX7_turn.desc).map (fun d => d.parameters.length) = some 1 := by decide +kernel
set_option maxHeartbeats 4000000 in
set_option maxRecDepth 100000 in
theorem kc_X7_turn (l : Launch) (D : va_G) (q : Nat → ClassId) (vl u : Nat → Nat) (hU0 : tw_inj (cX vl) u) (K : Nat) (r0 : Nat) (x1 : Int32) (hr0 : cw_X7 r0) (z z1 : ow_MS) (hq : ce_X7_turn vl K r0 x1 z = some z1) : Met l yX7_turn wc_X7_turn ({ frames := 0, cells := 0, slots := 0, locals := 0 } : Room) (va_Pc [.ref (u r0), .int x1] (cw_pre D q vl u z)) (va_Qv (fun (_ : Unit) => True) (fun _ t => va_P D vwCl (uw (cX vl) q u z1) t.heap) (tw_A (cX vl) u)) 0 0 (tw_A (cX vl) u) := by
  refine Met.ofW (cc := cX7_turn) (maxL := 4) (ret := none) (by decide) rfl ?_
  intro p e s m args below meth c s₁ B hml hv
  obtain ⟨rfl, hP, hK⟩ := hv
  have hx := B.exec
  have hb := B.bytes
  have hr := B.returns
  have hts := atoms_spec (ws := wc_X7_turn) B.pre
  have hT : ∀ w ∈ wC, w.before ([.ref (u r0), .int x1] : List Value).toArray s = true := fun w h => hts w (List.mem_cons_of_mem _ h)
  have hown : s.vm.findClass RX7 = some m.cls := findClass_of_methodNamed B.named
  have hlocks := B.notSynchronized
  have hU : uw_inj (cX vl) u (tw_A (cX vl) u) := ⟨hU0, fun h hh => ⟨h, hh, rfl⟩⟩
  have hM : uw_M D vwCl (cX vl) q (tw_A (cX vl) u) s.heap u z s.heap [] := ⟨hP, va_S.rf⟩
  have hl := lv_entry ([.ref (u r0), .int x1]) (n := 4) (Nat.le_of_ble_eq_true rfl)
  rw [lg_entry_eq]
  generalize (lg_sl ([.ref (u r0), .int x1]) ++ List.replicate (4 - (lg_sl ([.ref (u r0), .int x1])).length) Slot.unset).toArray = ls at hl ⊢
  have hl : lv_has ls 4 [(0, .ref (u r0)), (1, .int x1)] := hl
  refine ow_named (fun QQ hQQ => ?_)
  generalize ([.ref (u r0), .int x1] : List Value).toArray = args at hts hT hQQ ⊢
  have key : ∀ k : Nat, (∀ (x1 : Int32) (x2 : Int32) (r0 : Nat) (z : ow_MS) (H : Heap) (locs : List Loc) (ls : Array Slot), cw_X7 r0 → uw_M D vwCl (cX vl) q (tw_A (cX vl) u) s.heap u z H locs → lv_has ls 4 [(0, .ref (u r0)), (1, .int x1)] → c_X7_turn vl K k 0 x1 x2 r0 z = some z1 → W p l e ({ frames := 0, cells := 0, slots := 0, locals := 0 } : Room) s m args below meth c H locs 0 0 QQ (F0 m 0 ls [])) ∧ (∀ (x1 : Int32) (x2 : Int32) (r0 : Nat) (z : ow_MS) (H : Heap) (locs : List Loc) (ls : Array Slot), cw_X7 r0 → uw_M D vwCl (cX vl) q (tw_A (cX vl) u) s.heap u z H locs → lv_has ls 4 [(0, .ref (u r0)), (1, .int x1), (2, .int x2)] → c_X7_turn vl K k 1 x1 x2 r0 z = some z1 → W p l e ({ frames := 0, cells := 0, slots := 0, locals := 0 } : Room) s m args below meth c H locs 0 0 QQ (F0 m 2 ls [])) ∧ (∀ (x1 : Int32) (x2 : Int32) (r0 : Nat) (z : ow_MS) (H : Heap) (locs : List Loc) (ls : Array Slot), cw_X7 r0 → uw_M D vwCl (cX vl) q (tw_A (cX vl) u) s.heap u z H locs → lv_has ls 4 [(0, .ref (u r0)), (1, .int x1), (2, .int x2)] → c_X7_turn vl K k 2 x1 x2 r0 z = some z1 → W p l e ({ frames := 0, cells := 0, slots := 0, locals := 0 } : Room) s m args below meth c H locs 0 0 QQ (F0 m 27 ls [])) ∧ (∀ (x1 : Int32) (x2 : Int32) (r0 : Nat) (z : ow_MS) (H : Heap) (locs : List Loc) (ls : Array Slot), cw_X7 r0 → uw_M D vwCl (cX vl) q (tw_A (cX vl) u) s.heap u z H locs → lv_has ls 4 [(0, .ref (u r0)), (1, .int x1), (2, .int x2)] → c_X7_turn vl K k 3 x1 x2 r0 z = some z1 → W p l e ({ frames := 0, cells := 0, slots := 0, locals := 0 } : Room) s m args below meth c H locs 0 0 QQ (F0 m 70 ls [])) := by
    intro k
    induction k with
    | zero => exact ⟨fun _ _ _ _ _ _ _ _ _ _ hq => cw_no hq, fun _ _ _ _ _ _ _ _ _ _ hq => cw_no hq, fun _ _ _ _ _ _ _ _ _ _ hq => cw_no hq, fun _ _ _ _ _ _ _ _ _ _ hq => cw_no hq⟩
    | succ k ih =>
      obtain ⟨ih_0, ih_1, ih_2, ih_3⟩ := ih
      refine ⟨?_, ?_, ?_, ?_⟩
      · intro x1 x2 r0 z H locs ls hr0 hM hl hq
        have hq : cm_X7_turn_0 vl K (c_X7_turn vl K k) x1 x2 r0 z = some z1 := hq
        unfold cm_X7_turn_0 at hq
        refine lv_iconst (v := 0) hx hb dcX7_turn_0 (by decide) ?_
        refine lv_istore_n (lv' := [(2, .int 0), (0, .ref (u r0)), (1, .int x1)]) hx hb dcX7_turn_1 rfl hl (by decide) rfl (fun ls hl => ?_)
        exact ih_1 x1 0 r0 z H locs ls hr0 hM (lv_sub hl [1, 2, 0] rfl) hq
      · intro x1 x2 r0 z H locs ls hr0 hM hl hq
        have hq : cm_X7_turn_1 vl K (c_X7_turn vl K k) x1 x2 r0 z = some z1 := hq
        unfold cm_X7_turn_1 at hq
        refine lv_iload_n hx hb dcX7_turn_2 rfl (lv_at hl 2 rfl) ?_
        refine lv_iconst (v := 2) hx hb dcX7_turn_3 (by decide) ?_
        refine lv_aload_n hx hb dcX7_turn_4 rfl (lv_at hl 0 rfl) ?_
        refine vgX7_39 hx hb hT hown hK hM hr0 hq dcX7_turn_5 (fun v1 hq => ?_)
        refine lv_imul hx hb dcX7_turn_8 ?_
        refine lv_icmp_ge (tgt := 76) hx hb dcX7_turn_9 (by decide) (fun hc => ?_) (fun hc => ?_)
        · have hq := tw_it hq hc
          exact cw_vret hx hb hr hlocks hM hq hQQ dcX7_turn_76
        · have hq := tw_if hq hc
          refine lv_iload_n hx hb dcX7_turn_12 rfl (lv_at hl 1 rfl) ?_
          refine lv_iconst (v := (-1)) hx hb dcX7_turn_13 (by decide) ?_
          refine lv_icmp_eq (tgt := 27) hx hb dcX7_turn_14 (by decide) (fun hc => ?_) (fun hc => ?_)
          · have hq := tw_it hq hc
            exact ih_2 x1 x2 r0 z H locs ls hr0 hM (lv_sub hl [0, 1, 2] rfl) hq
          · have hq := tw_if hq hc
            refine lv_aload_n hx hb dcX7_turn_17 rfl (lv_at hl 0 rfl) ?_
            refine vgX7_24 hx hb hT hown hK hM hr0 dcX7_turn_18 ?_
            refine lv_iload_n hx hb dcX7_turn_21 rfl (lv_at hl 2 rfl) ?_
            refine uw_iald cX_ok hx hb hK hM (cr_X7_4 hr0) hq dcX7_turn_22 (fun v2 hq => ?_)
            refine lv_iload_n hx hb dcX7_turn_23 rfl (lv_at hl 1 rfl) ?_
            refine lv_icmp_ne (tgt := 70) hx hb dcX7_turn_24 (by decide) (fun hc => ?_) (fun hc => ?_)
            · have hq := tw_if hq hc
              exact ih_3 x1 x2 r0 z H locs ls hr0 hM (lv_sub hl [0, 1, 2] rfl) hq
            · have hq := tw_it hq hc
              exact ih_2 x1 x2 r0 z H locs ls hr0 hM (lv_sub hl [0, 1, 2] rfl) hq
      · intro x1 x2 r0 z H locs ls hr0 hM hl hq
        have hq : cm_X7_turn_2 vl K (c_X7_turn vl K k) x1 x2 r0 z = some z1 := hq
        unfold cm_X7_turn_2 at hq
        refine lv_aload_n hx hb dcX7_turn_27 rfl (lv_at hl 0 rfl) ?_
        refine vgX7_9 hx hb hT hown hK hM hr0 dcX7_turn_28 ?_
        refine lv_iload_n hx hb dcX7_turn_31 rfl (lv_at hl 2 rfl) ?_
        refine uw_iald cX_ok hx hb hK hM (cr_X7_0 hr0) hq dcX7_turn_32 (fun v3 hq => ?_)
        refine lv_istore_n (lv' := [(3, .int v3), (0, .ref (u r0)), (1, .int x1), (2, .int x2)]) hx hb dcX7_turn_33 rfl hl (by decide) rfl (fun ls hl => ?_)
        refine lv_aload_n hx hb dcX7_turn_34 rfl (lv_at hl 1 rfl) ?_
        refine vgX7_9 hx hb hT hown hK hM hr0 dcX7_turn_35 ?_
        refine lv_iload_n hx hb dcX7_turn_38 rfl (lv_at hl 3 rfl) ?_
        refine lv_aload_n hx hb dcX7_turn_39 rfl (lv_at hl 1 rfl) ?_
        refine vgX7_15 hx hb hT hown hK hM hr0 dcX7_turn_40 ?_
        refine lv_iload_n hx hb dcX7_turn_43 rfl (lv_at hl 3 rfl) ?_
        refine uw_iald cX_ok hx hb hK hM (cr_X7_1 hr0) hq dcX7_turn_44 (fun v4 hq => ?_)
        refine uw_iast cX_ok hU hx hb hK hM (cr_X7_0 hr0) hq dcX7_turn_45 (fun z5 H locs hM hq => ?_)
        refine lv_aload_n hx hb dcX7_turn_46 rfl (lv_at hl 1 rfl) ?_
        refine vgX7_15 hx hb hT hown hK hM hr0 dcX7_turn_47 ?_
        refine lv_iload_n hx hb dcX7_turn_50 rfl (lv_at hl 3 rfl) ?_
        refine lv_iload_n hx hb dcX7_turn_51 rfl (lv_at hl 0 rfl) ?_
        refine uw_iast cX_ok hU hx hb hK hM (cr_X7_1 hr0) hq dcX7_turn_52 (fun z6 H locs hM hq => ?_)
        refine lv_aload_n hx hb dcX7_turn_53 rfl (lv_at hl 1 rfl) ?_
        refine vgX7_18 hx hb hT hown hK hM hr0 dcX7_turn_54 ?_
        refine lv_iload_n hx hb dcX7_turn_57 rfl (lv_at hl 3 rfl) ?_
        refine lv_iconst (v := 1) hx hb dcX7_turn_58 (by decide) ?_
        refine lv_ishr hx hb dcX7_turn_59 ?_
        refine lv_aload_n hx hb dcX7_turn_60 rfl (lv_at hl 1 rfl) ?_
        refine vgX7_18 hx hb hT hown hK hM hr0 dcX7_turn_61 ?_
        refine lv_iload_n hx hb dcX7_turn_64 rfl (lv_at hl 3 rfl) ?_
        refine lv_iconst (v := 1) hx hb dcX7_turn_65 (by decide) ?_
        refine lv_ishr hx hb dcX7_turn_66 ?_
        refine uw_iald cX_ok hx hb hK hM (cr_X7_2 hr0) hq dcX7_turn_67 (fun v7 hq => ?_)
        refine lv_ineg hx hb dcX7_turn_68 ?_
        refine uw_iast cX_ok hU hx hb hK hM (cr_X7_2 hr0) hq dcX7_turn_69 (fun z8 H locs hM hq => ?_)
        exact ih_3 x1 x2 r0 z8 H locs ls hr0 hM (lv_sub hl [1, 2, 3] rfl) hq
      · intro x1 x2 r0 z H locs ls hr0 hM hl hq
        have hq : cm_X7_turn_3 vl K (c_X7_turn vl K k) x1 x2 r0 z = some z1 := hq
        unfold cm_X7_turn_3 at hq
        refine lv_iinc (v := (x2 + 1)) (lv' := [(2, .int (x2 + 1)), (0, .ref (u r0)), (1, .int x1)]) hx hb dcX7_turn_70 hl (k := 2) rfl rfl (by decide) rfl (fun ls hl => ?_)
        refine lv_goto (tgt := 2) hx hb dcX7_turn_73 (by decide) ?_
        exact ih_1 x1 (x2 + 1) r0 z H locs ls hr0 hM (lv_sub hl [1, 2, 0] rfl) hq
  exact (key K).1 x1 0 r0 z s.heap [] ls hr0 hM (lv_sub hl [0, 1] rfl) hq
theorem dcX7_alternates_0 : decode cX7_alternates 0 = .ok (.iconst 0, 1) := by decide +kernel
theorem dcX7_alternates_1 : decode cX7_alternates 1 = .ok (.istore_n 1, 1) := by decide +kernel
theorem dcX7_alternates_2 : decode cX7_alternates 2 = .ok (.iload_n 1, 1) := by decide +kernel
theorem dcX7_alternates_3 : decode cX7_alternates 3 = .ok (.iconst 2, 1) := by decide +kernel
theorem dcX7_alternates_4 : decode cX7_alternates 4 = .ok (.aload_n 0, 1) := by decide +kernel
theorem dcX7_alternates_5 : decode cX7_alternates 5 = .ok (.getfield 39, 3) := by decide +kernel
theorem dcX7_alternates_8 : decode cX7_alternates 8 = .ok (.imul, 1) := by decide +kernel
theorem dcX7_alternates_9 : decode cX7_alternates 9 = .ok (.if_icmp .ge 25, 3) := by decide +kernel
theorem dcX7_alternates_12 : decode cX7_alternates 12 = .ok (.iload_n 1, 1) := by decide +kernel
theorem dcX7_alternates_13 : decode cX7_alternates 13 = .ok (.iconst 1, 1) := by decide +kernel
theorem dcX7_alternates_14 : decode cX7_alternates 14 = .ok (.iand, 1) := by decide +kernel
theorem dcX7_alternates_15 : decode cX7_alternates 15 = .ok (.aload_n 0, 1) := by decide +kernel
theorem dcX7_alternates_16 : decode cX7_alternates 16 = .ok (.getfield 9, 3) := by decide +kernel
theorem dcX7_alternates_19 : decode cX7_alternates 19 = .ok (.iload_n 1, 1) := by decide +kernel
theorem dcX7_alternates_20 : decode cX7_alternates 20 = .ok (.iaload, 1) := by decide +kernel
theorem dcX7_alternates_21 : decode cX7_alternates 21 = .ok (.iconst 1, 1) := by decide +kernel
theorem dcX7_alternates_22 : decode cX7_alternates 22 = .ok (.iand, 1) := by decide +kernel
theorem dcX7_alternates_23 : decode cX7_alternates 23 = .ok (.if_icmp .ne 5, 3) := by decide +kernel
theorem dcX7_alternates_26 : decode cX7_alternates 26 = .ok (.iconst 0, 1) := by decide +kernel
theorem dcX7_alternates_27 : decode cX7_alternates 27 = .ok (.ireturn, 1) := by decide +kernel
theorem dcX7_alternates_28 : decode cX7_alternates 28 = .ok (.iinc 1 1, 3) := by decide +kernel
theorem dcX7_alternates_31 : decode cX7_alternates 31 = .ok (.goto (-29), 3) := by decide +kernel
theorem dcX7_alternates_34 : decode cX7_alternates 34 = .ok (.iconst 1, 1) := by decide +kernel
theorem dcX7_alternates_35 : decode cX7_alternates 35 = .ok (.ireturn, 1) := by decide +kernel
def cm_X7_alternates_0 (vl : Nat → Nat) (K : Nat) (go : Nat → Int32 → Nat → ow_MS → Option (Int32 × ow_MS)) (x1 : Int32) (r0 : Nat) (z : ow_MS) : Option (Int32 × ow_MS) :=
 go 1 0 r0 z
def cm_X7_alternates_1 (vl : Nat → Nat) (K : Nat) (go : Nat → Int32 → Nat → ow_MS → Option (Int32 × ow_MS)) (x1 : Int32) (r0 : Nat) (z : ow_MS) : Option (Int32 × ow_MS) :=
 rdF z (r0 + 8) fun v1 => (if (2 * v1) ≤ x1 then okZ 1 (some (1, z))
 else crI (cX vl) z (r0 + 1) x1 fun v2 => (if (x1 &&& 1) = (v2 &&& 1) then okZ 0 (some (0, z))
 else go 1 (x1 + 1) r0 z))
def cb_X7_alternates (vl : Nat → Nat) (K : Nat) (go : Nat → Int32 → Nat → ow_MS → Option (Int32 × ow_MS)) (L : Nat) (x1 : Int32) (r0 : Nat) (z : ow_MS) : Option (Int32 × ow_MS) := match L with
  | 0 => cm_X7_alternates_0 vl K go x1 r0 z
  | 1 => cm_X7_alternates_1 vl K go x1 r0 z
  | _ => none
def c_X7_alternates (vl : Nat → Nat) (K : Nat) : Nat → Nat → Int32 → Nat → ow_MS → Option (Int32 × ow_MS)
  | 0 => fun _ _ _ _ => none
  | k + 1 => cb_X7_alternates vl K (c_X7_alternates vl K k)
def ce_X7_alternates (vl : Nat → Nat) (K : Nat) (r0 : Nat) (z : ow_MS) : Option (Int32 × ow_MS) := c_X7_alternates vl K K 0 0 r0 z
abbrev wc_X7_alternates : List Cond := .code yX7_alternates cX7_alternates 2 (some .boolean) :: wC
theorem cdd_X7_alternates : yX7_alternates.cls = RX7 ∧ yX7_alternates.cls ≠ "java/lang/invoke/MethodHandle" ∧ yX7_alternates.cls ≠ "java/lang/invoke/VarHandle" ∧ (parseMethodDescriptor yX7_alternates.desc).map (fun d => d.parameters.length) = some 0 := by decide +kernel
set_option maxHeartbeats 4000000 in
set_option maxRecDepth 100000 in
theorem kc_X7_alternates (l : Launch) (D : va_G) (q : Nat → ClassId) (vl u : Nat → Nat) (hU0 : tw_inj (cX vl) u) (K : Nat) (r0 : Nat) (hr0 : cw_X7 r0) (z z1 : ow_MS) (r : Int32) (hq : ce_X7_alternates vl K r0 z = some (r, z1)) : Met l yX7_alternates wc_X7_alternates ({ frames := 0, cells := 0, slots := 0, locals := 0 } : Room) (va_Pc [.ref (u r0)] (cw_pre D q vl u z)) (va_Qi (fun x (_ : Unit) => x = r) (fun _ t => va_P D vwCl (uw (cX vl) q u z1) t.heap) (tw_A (cX vl) u)) 0 0 (tw_A (cX vl) u) := by
  refine Met.ofW (cc := cX7_alternates) (maxL := 2) (ret := (some .boolean)) (by decide) rfl ?_
  intro p e s m args below meth c s₁ B hml hv
  obtain ⟨rfl, hP, hK⟩ := hv
  have hx := B.exec
  have hb := B.bytes
  have hr := B.returns
  have hts := atoms_spec (ws := wc_X7_alternates) B.pre
  have hT : ∀ w ∈ wC, w.before ([.ref (u r0)] : List Value).toArray s = true := fun w h => hts w (List.mem_cons_of_mem _ h)
  have hown : s.vm.findClass RX7 = some m.cls := findClass_of_methodNamed B.named
  have hlocks := B.notSynchronized
  have hU : uw_inj (cX vl) u (tw_A (cX vl) u) := ⟨hU0, fun h hh => ⟨h, hh, rfl⟩⟩
  have hM : uw_M D vwCl (cX vl) q (tw_A (cX vl) u) s.heap u z s.heap [] := ⟨hP, va_S.rf⟩
  have hl := lv_entry ([.ref (u r0)]) (n := 2) (Nat.le_of_ble_eq_true rfl)
  rw [lg_entry_eq]
  generalize (lg_sl ([.ref (u r0)]) ++ List.replicate (2 - (lg_sl ([.ref (u r0)])).length) Slot.unset).toArray = ls at hl ⊢
  have hl : lv_has ls 2 [(0, .ref (u r0))] := hl
  refine ow_named (fun QQ hQQ => ?_)
  generalize ([.ref (u r0)] : List Value).toArray = args at hts hT hQQ ⊢
  have key : ∀ k : Nat, (∀ (x1 : Int32) (r0 : Nat) (z : ow_MS) (H : Heap) (locs : List Loc) (ls : Array Slot), cw_X7 r0 → uw_M D vwCl (cX vl) q (tw_A (cX vl) u) s.heap u z H locs → lv_has ls 2 [(0, .ref (u r0))] → c_X7_alternates vl K k 0 x1 r0 z = some (r, z1) → W p l e ({ frames := 0, cells := 0, slots := 0, locals := 0 } : Room) s m args below meth c H locs 0 0 QQ (F0 m 0 ls [])) ∧ (∀ (x1 : Int32) (r0 : Nat) (z : ow_MS) (H : Heap) (locs : List Loc) (ls : Array Slot), cw_X7 r0 → uw_M D vwCl (cX vl) q (tw_A (cX vl) u) s.heap u z H locs → lv_has ls 2 [(0, .ref (u r0)), (1, .int x1)] → c_X7_alternates vl K k 1 x1 r0 z = some (r, z1) → W p l e ({ frames := 0, cells := 0, slots := 0, locals := 0 } : Room) s m args below meth c H locs 0 0 QQ (F0 m 2 ls [])) := by
    intro k
    induction k with
    | zero => exact ⟨fun _ _ _ _ _ _ _ _ _ hq => cw_no hq, fun _ _ _ _ _ _ _ _ _ hq => cw_no hq⟩
    | succ k ih =>
      obtain ⟨ih_0, ih_1⟩ := ih
      refine ⟨?_, ?_⟩
      · intro x1 r0 z H locs ls hr0 hM hl hq
        have hq : cm_X7_alternates_0 vl K (c_X7_alternates vl K k) x1 r0 z = some (r, z1) := hq
        unfold cm_X7_alternates_0 at hq
        refine lv_iconst (v := 0) hx hb dcX7_alternates_0 (by decide) ?_
        refine lv_istore_n (lv' := [(1, .int 0), (0, .ref (u r0))]) hx hb dcX7_alternates_1 rfl hl (by decide) rfl (fun ls hl => ?_)
        exact ih_1 0 r0 z H locs ls hr0 hM (lv_sub hl [1, 0] rfl) hq
      · intro x1 r0 z H locs ls hr0 hM hl hq
        have hq : cm_X7_alternates_1 vl K (c_X7_alternates vl K k) x1 r0 z = some (r, z1) := hq
        unfold cm_X7_alternates_1 at hq
        refine lv_iload_n hx hb dcX7_alternates_2 rfl (lv_at hl 1 rfl) ?_
        refine lv_iconst (v := 2) hx hb dcX7_alternates_3 (by decide) ?_
        refine lv_aload_n hx hb dcX7_alternates_4 rfl (lv_at hl 0 rfl) ?_
        refine vgX7_39 hx hb hT hown hK hM hr0 hq dcX7_alternates_5 (fun v1 hq => ?_)
        refine lv_imul hx hb dcX7_alternates_8 ?_
        refine lv_icmp_ge (tgt := 34) hx hb dcX7_alternates_9 (by decide) (fun hc => ?_) (fun hc => ?_)
        · have hq := tw_it hq hc
          refine lv_iconst (v := 1) hx hb dcX7_alternates_34 (by decide) ?_
          obtain ⟨hz, hq⟩ := tw_gZ hq
          exact cw_zret hx hb hr hlocks hM hz hq hQQ dcX7_alternates_35
        · have hq := tw_if hq hc
          refine lv_iload_n hx hb dcX7_alternates_12 rfl (lv_at hl 1 rfl) ?_
          refine lv_iconst (v := 1) hx hb dcX7_alternates_13 (by decide) ?_
          refine lv_iand hx hb dcX7_alternates_14 ?_
          refine lv_aload_n hx hb dcX7_alternates_15 rfl (lv_at hl 0 rfl) ?_
          refine vgX7_9 hx hb hT hown hK hM hr0 dcX7_alternates_16 ?_
          refine lv_iload_n hx hb dcX7_alternates_19 rfl (lv_at hl 1 rfl) ?_
          refine uw_iald cX_ok hx hb hK hM (cr_X7_0 hr0) hq dcX7_alternates_20 (fun v2 hq => ?_)
          refine lv_iconst (v := 1) hx hb dcX7_alternates_21 (by decide) ?_
          refine lv_iand hx hb dcX7_alternates_22 ?_
          refine lv_icmp_ne (tgt := 28) hx hb dcX7_alternates_23 (by decide) (fun hc => ?_) (fun hc => ?_)
          · have hq := tw_if hq hc
            refine lv_iinc (v := (x1 + 1)) (lv' := [(1, .int (x1 + 1)), (0, .ref (u r0))]) hx hb dcX7_alternates_28 hl (k := 1) rfl rfl (by decide) rfl (fun ls hl => ?_)
            refine lv_goto (tgt := 2) hx hb dcX7_alternates_31 (by decide) ?_
            exact ih_1 (x1 + 1) r0 z H locs ls hr0 hM (lv_sub hl [1, 0] rfl) hq
          · have hq := tw_it hq hc
            refine lv_iconst (v := 0) hx hb dcX7_alternates_26 (by decide) ?_
            obtain ⟨hz, hq⟩ := tw_gZ hq
            exact cw_zret hx hb hr hlocks hM hz hq hQQ dcX7_alternates_27
  exact (key K).1 0 r0 z s.heap [] ls hr0 hM (lv_sub hl [0] rfl) hq
theorem dcX7_markRings_0 : decode cX7_markRings 0 = .ok (.iconst 2, 1) := dw_at cX7_markRings_k0 (p := 0) rfl (by decide +kernel)
theorem dcX7_markRings_1 : decode cX7_markRings 1 = .ok (.aload_n 0, 1) := dw_at cX7_markRings_k0 (p := 1) rfl (by decide +kernel)
theorem dcX7_markRings_2 : decode cX7_markRings 2 = .ok (.getfield 39, 3) := dw_at cX7_markRings_k0 (p := 2) rfl (by decide +kernel)
theorem dcX7_markRings_5 : decode cX7_markRings 5 = .ok (.imul, 1) := dw_at cX7_markRings_k0 (p := 5) rfl (by decide +kernel)
theorem dcX7_markRings_6 : decode cX7_markRings 6 = .ok (.istore_n 1, 1) := dw_at cX7_markRings_k0 (p := 6) rfl (by decide +kernel)
theorem dcX7_markRings_7 : decode cX7_markRings 7 = .ok (.aload_n 0, 1) := dw_at cX7_markRings_k0 (p := 7) rfl (by decide +kernel)
theorem dcX7_markRings_8 : decode cX7_markRings 8 = .ok (.getfield 24, 3) := dw_at cX7_markRings_k0 (p := 8) rfl (by decide +kernel)
theorem dcX7_markRings_11 : decode cX7_markRings 11 = .ok (.iconst 0, 1) := dw_at cX7_markRings_k0 (p := 11) rfl (by decide +kernel)
theorem dcX7_markRings_12 : decode cX7_markRings 12 = .ok (.iload_n 1, 1) := dw_at cX7_markRings_k0 (p := 12) rfl (by decide +kernel)
theorem dcX7_markRings_13 : decode cX7_markRings 13 = .ok (.iconst (-1), 1) := dw_at cX7_markRings_k0 (p := 13) rfl (by decide +kernel)
theorem dcX7_markRings_14 : decode cX7_markRings 14 = .ok (.invokestatic 84, 3) := dw_at cX7_markRings_k0 (p := 14) rfl (by decide +kernel)
theorem dcX7_markRings_17 : decode cX7_markRings 17 = .ok (.aload_n 0, 1) := dw_at cX7_markRings_k0 (p := 17) rfl (by decide +kernel)
theorem dcX7_markRings_18 : decode cX7_markRings 18 = .ok (.iconst 0, 1) := dw_at cX7_markRings_k0 (p := 18) rfl (by decide +kernel)
theorem dcX7_markRings_19 : decode cX7_markRings 19 = .ok (.putfield 45, 3) := dw_at cX7_markRings_k0 (p := 19) rfl (by decide +kernel)
theorem dcX7_markRings_22 : decode cX7_markRings 22 = .ok (.iconst 0, 1) := dw_at cX7_markRings_k0 (p := 22) rfl (by decide +kernel)
theorem dcX7_markRings_23 : decode cX7_markRings 23 = .ok (.istore_n 2, 1) := dw_at cX7_markRings_k0 (p := 23) rfl (by decide +kernel)
theorem dcX7_markRings_24 : decode cX7_markRings 24 = .ok (.iload_n 2, 1) := dw_at cX7_markRings_k1 (p := 0) rfl (by decide +kernel)
theorem dcX7_markRings_25 : decode cX7_markRings 25 = .ok (.iload_n 1, 1) := dw_at cX7_markRings_k1 (p := 1) rfl (by decide +kernel)
theorem dcX7_markRings_26 : decode cX7_markRings 26 = .ok (.if_icmp .ge 76, 3) := dw_at cX7_markRings_k1 (p := 2) rfl (by decide +kernel)
theorem dcX7_markRings_29 : decode cX7_markRings 29 = .ok (.aload_n 0, 1) := dw_at cX7_markRings_k1 (p := 5) rfl (by decide +kernel)
theorem dcX7_markRings_30 : decode cX7_markRings 30 = .ok (.getfield 24, 3) := dw_at cX7_markRings_k1 (p := 6) rfl (by decide +kernel)
theorem dcX7_markRings_33 : decode cX7_markRings 33 = .ok (.iload_n 2, 1) := dw_at cX7_markRings_k1 (p := 9) rfl (by decide +kernel)
theorem dcX7_markRings_34 : decode cX7_markRings 34 = .ok (.iaload, 1) := dw_at cX7_markRings_k1 (p := 10) rfl (by decide +kernel)
theorem dcX7_markRings_35 : decode cX7_markRings 35 = .ok (.iconst (-1), 1) := dw_at cX7_markRings_k1 (p := 11) rfl (by decide +kernel)
theorem dcX7_markRings_36 : decode cX7_markRings 36 = .ok (.if_icmp .eq 6, 3) := dw_at cX7_markRings_k1 (p := 12) rfl (by decide +kernel)
theorem dcX7_markRings_39 : decode cX7_markRings 39 = .ok (.goto 57, 3) := dw_at cX7_markRings_k1 (p := 15) rfl (by decide +kernel)
theorem dcX7_markRings_42 : decode cX7_markRings 42 = .ok (.iload_n 2, 1) := dw_at cX7_markRings_k1 (p := 18) rfl (by decide +kernel)
theorem dcX7_markRings_43 : decode cX7_markRings 43 = .ok (.istore_n 3, 1) := dw_at cX7_markRings_k1 (p := 19) rfl (by decide +kernel)
theorem dcX7_markRings_44 : decode cX7_markRings 44 = .ok (.iconst 0, 1) := dw_at cX7_markRings_k1 (p := 20) rfl (by decide +kernel)
theorem dcX7_markRings_45 : decode cX7_markRings 45 = .ok (.istore 4, 2) := dw_at cX7_markRings_k1 (p := 21) rfl (by decide +kernel)
theorem dcX7_markRings_47 : decode cX7_markRings 47 = .ok (.iload 4, 2) := dw_at cX7_markRings_k1 (p := 23) rfl (by decide +kernel)
theorem dcX7_markRings_49 : decode cX7_markRings 49 = .ok (.iload_n 1, 1) := dw_at cX7_markRings_k2 (p := 0) rfl (by decide +kernel)
theorem dcX7_markRings_50 : decode cX7_markRings 50 = .ok (.if_icmp .ge 36, 3) := dw_at cX7_markRings_k2 (p := 1) rfl (by decide +kernel)
theorem dcX7_markRings_53 : decode cX7_markRings 53 = .ok (.aload_n 0, 1) := dw_at cX7_markRings_k2 (p := 4) rfl (by decide +kernel)
theorem dcX7_markRings_54 : decode cX7_markRings 54 = .ok (.getfield 24, 3) := dw_at cX7_markRings_k2 (p := 5) rfl (by decide +kernel)
theorem dcX7_markRings_57 : decode cX7_markRings 57 = .ok (.iload_n 3, 1) := dw_at cX7_markRings_k2 (p := 8) rfl (by decide +kernel)
theorem dcX7_markRings_58 : decode cX7_markRings 58 = .ok (.iaload, 1) := dw_at cX7_markRings_k2 (p := 9) rfl (by decide +kernel)
theorem dcX7_markRings_59 : decode cX7_markRings 59 = .ok (.iconst (-1), 1) := dw_at cX7_markRings_k2 (p := 10) rfl (by decide +kernel)
theorem dcX7_markRings_60 : decode cX7_markRings 60 = .ok (.if_icmp .ne 26, 3) := dw_at cX7_markRings_k2 (p := 11) rfl (by decide +kernel)
theorem dcX7_markRings_63 : decode cX7_markRings 63 = .ok (.aload_n 0, 1) := dw_at cX7_markRings_k2 (p := 14) rfl (by decide +kernel)
theorem dcX7_markRings_64 : decode cX7_markRings 64 = .ok (.getfield 24, 3) := dw_at cX7_markRings_k2 (p := 15) rfl (by decide +kernel)
theorem dcX7_markRings_67 : decode cX7_markRings 67 = .ok (.iload_n 3, 1) := dw_at cX7_markRings_k2 (p := 18) rfl (by decide +kernel)
theorem dcX7_markRings_68 : decode cX7_markRings 68 = .ok (.aload_n 0, 1) := dw_at cX7_markRings_k2 (p := 19) rfl (by decide +kernel)
theorem dcX7_markRings_69 : decode cX7_markRings 69 = .ok (.getfield 45, 3) := dw_at cX7_markRings_k2 (p := 20) rfl (by decide +kernel)
theorem dcX7_markRings_72 : decode cX7_markRings 72 = .ok (.iastore, 1) := dw_at cX7_markRings_k2 (p := 23) rfl (by decide +kernel)
theorem dcX7_markRings_73 : decode cX7_markRings 73 = .ok (.aload_n 0, 1) := dw_at cX7_markRings_k3 (p := 0) rfl (by decide +kernel)
theorem dcX7_markRings_74 : decode cX7_markRings 74 = .ok (.getfield 9, 3) := dw_at cX7_markRings_k3 (p := 1) rfl (by decide +kernel)
theorem dcX7_markRings_77 : decode cX7_markRings 77 = .ok (.iload_n 3, 1) := dw_at cX7_markRings_k3 (p := 4) rfl (by decide +kernel)
theorem dcX7_markRings_78 : decode cX7_markRings 78 = .ok (.iaload, 1) := dw_at cX7_markRings_k3 (p := 5) rfl (by decide +kernel)
theorem dcX7_markRings_79 : decode cX7_markRings 79 = .ok (.istore_n 3, 1) := dw_at cX7_markRings_k3 (p := 6) rfl (by decide +kernel)
theorem dcX7_markRings_80 : decode cX7_markRings 80 = .ok (.iinc 4 1, 3) := dw_at cX7_markRings_k3 (p := 7) rfl (by decide +kernel)
theorem dcX7_markRings_83 : decode cX7_markRings 83 = .ok (.goto (-36), 3) := dw_at cX7_markRings_k3 (p := 10) rfl (by decide +kernel)
theorem dcX7_markRings_86 : decode cX7_markRings 86 = .ok (.aload_n 0, 1) := dw_at cX7_markRings_k3 (p := 13) rfl (by decide +kernel)
theorem dcX7_markRings_87 : decode cX7_markRings 87 = .ok (.dup, 1) := dw_at cX7_markRings_k3 (p := 14) rfl (by decide +kernel)
theorem dcX7_markRings_88 : decode cX7_markRings 88 = .ok (.getfield 45, 3) := dw_at cX7_markRings_k3 (p := 15) rfl (by decide +kernel)
theorem dcX7_markRings_91 : decode cX7_markRings 91 = .ok (.iconst 1, 1) := dw_at cX7_markRings_k3 (p := 18) rfl (by decide +kernel)
theorem dcX7_markRings_92 : decode cX7_markRings 92 = .ok (.iadd, 1) := dw_at cX7_markRings_k3 (p := 19) rfl (by decide +kernel)
theorem dcX7_markRings_93 : decode cX7_markRings 93 = .ok (.putfield 45, 3) := dw_at cX7_markRings_k3 (p := 20) rfl (by decide +kernel)
theorem dcX7_markRings_96 : decode cX7_markRings 96 = .ok (.iinc 2 1, 3) := dw_at cX7_markRings_k3 (p := 23) rfl (by decide +kernel)
theorem dcX7_markRings_99 : decode cX7_markRings 99 = .ok (.goto (-75), 3) := dw_at cX7_markRings_k3 (p := 26) rfl (by decide +kernel)
theorem dcX7_markRings_102 : decode cX7_markRings 102 = .ok (.return_, 1) := dw_at cX7_markRings_k3 (p := 29) rfl (by decide +kernel)
def cm_X7_markRings_0 (vl : Nat → Nat) (K : Nat) (go : Nat → Int32 → Int32 → Int32 → Int32 → Nat → ow_MS → Option ow_MS) (x1 : Int32) (x2 : Int32) (x3 : Int32) (x4 : Int32) (r0 : Nat) (z : ow_MS) : Option ow_MS :=
 rdF z (r0 + 8) fun v1 => cs0 (ce_J7_fill_fda19 vl K (r0 + 5) 0 (2 * v1) (-1) z) fun z2 => wrF z2 (r0 + 10) 0 fun z3 => go 1 (2 * v1) 0 0 0 r0 z3
def cm_X7_markRings_1 (vl : Nat → Nat) (K : Nat) (go : Nat → Int32 → Int32 → Int32 → Int32 → Nat → ow_MS → Option ow_MS) (x1 : Int32) (x2 : Int32) (x3 : Int32) (x4 : Int32) (r0 : Nat) (z : ow_MS) : Option ow_MS :=
 (if x1 ≤ x2 then some z
 else crI (cX vl) z (r0 + 5) x2 fun v4 => (if v4 = (-1) then go 2 x1 x2 x2 0 r0 z
 else go 4 x1 x2 0 0 r0 z))
def cm_X7_markRings_2 (vl : Nat → Nat) (K : Nat) (go : Nat → Int32 → Int32 → Int32 → Int32 → Nat → ow_MS → Option ow_MS) (x1 : Int32) (x2 : Int32) (x3 : Int32) (x4 : Int32) (r0 : Nat) (z : ow_MS) : Option ow_MS :=
 (if x1 ≤ x4 then go 3 x1 x2 x3 x4 r0 z
 else crI (cX vl) z (r0 + 5) x3 fun v5 => (if v5 = (-1) then rdF z (r0 + 10) fun v6 => ctI (cX vl) z (r0 + 5) x3 v6 fun z7 => crI (cX vl) z7 (r0 + 1) x3 fun v8 => go 2 x1 x2 v8 (x4 + 1) r0 z7
 else go 3 x1 x2 x3 x4 r0 z))
def cm_X7_markRings_3 (vl : Nat → Nat) (K : Nat) (go : Nat → Int32 → Int32 → Int32 → Int32 → Nat → ow_MS → Option ow_MS) (x1 : Int32) (x2 : Int32) (x3 : Int32) (x4 : Int32) (r0 : Nat) (z : ow_MS) : Option ow_MS :=
 rdF z (r0 + 10) fun v9 => wrF z (r0 + 10) (v9 + 1) fun z10 => go 4 x1 x2 0 0 r0 z10
def cm_X7_markRings_4 (vl : Nat → Nat) (K : Nat) (go : Nat → Int32 → Int32 → Int32 → Int32 → Nat → ow_MS → Option ow_MS) (x1 : Int32) (x2 : Int32) (x3 : Int32) (x4 : Int32) (r0 : Nat) (z : ow_MS) : Option ow_MS :=
 go 1 x1 (x2 + 1) 0 0 r0 z
def cb_X7_markRings (vl : Nat → Nat) (K : Nat) (go : Nat → Int32 → Int32 → Int32 → Int32 → Nat → ow_MS → Option ow_MS) (L : Nat) (x1 : Int32) (x2 : Int32) (x3 : Int32) (x4 : Int32) (r0 : Nat) (z : ow_MS) : Option ow_MS := match L with
  | 0 => cm_X7_markRings_0 vl K go x1 x2 x3 x4 r0 z
  | 1 => cm_X7_markRings_1 vl K go x1 x2 x3 x4 r0 z
  | 2 => cm_X7_markRings_2 vl K go x1 x2 x3 x4 r0 z
  | 3 => cm_X7_markRings_3 vl K go x1 x2 x3 x4 r0 z
  | 4 => cm_X7_markRings_4 vl K go x1 x2 x3 x4 r0 z
  | _ => none
def c_X7_markRings (vl : Nat → Nat) (K : Nat) : Nat → Nat → Int32 → Int32 → Int32 → Int32 → Nat → ow_MS → Option ow_MS
  | 0 => fun _ _ _ _ _ _ _ => none
  | k + 1 => cb_X7_markRings vl K (c_X7_markRings vl K k)
def ce_X7_markRings (vl : Nat → Nat) (K : Nat) (r0 : Nat) (z : ow_MS) : Option ow_MS := c_X7_markRings vl K K 0 0 0 0 0 r0 z
abbrev wc_X7_markRings : List Cond := .code yX7_markRings cX7_markRings 5 none :: wC
theorem cdd_X7_markRings : yX7_markRings.cls = RX7 ∧ yX7_markRings.cls ≠ "java/lang/invoke/MethodHandle" ∧ yX7_markRings.cls ≠ "java/lang/invoke/VarHandle" ∧ (parseMethodDescriptor yX7_markRings.desc).map (fun d => d.parameters.length) = some 0 := by decide +kernel
set_option maxHeartbeats 4000000 in
set_option maxRecDepth 100000 in
theorem kc_X7_markRings (l : Launch) (D : va_G) (q : Nat → ClassId) (vl u : Nat → Nat) (hU0 : tw_inj (cX vl) u) (K : Nat) (r0 : Nat) (hr0 : cw_X7 r0) (z z1 : ow_MS) (hq : ce_X7_markRings vl K r0 z = some z1) : Met l yX7_markRings wc_X7_markRings ({ frames := 2, cells := 0, slots := 0, locals := 46 } : Room) (va_Pc [.ref (u r0)] (cw_pre D q vl u z)) (va_Qv (fun (_ : Unit) => True) (fun _ t => va_P D vwCl (uw (cX vl) q u z1) t.heap) (tw_A (cX vl) u)) 0 0 (tw_A (cX vl) u) := by
  refine Met.ofW (cc := cX7_markRings) (maxL := 5) (ret := none) (by decide) rfl ?_
  intro p e s m args below meth c s₁ B hml hv
  obtain ⟨rfl, hP, hK⟩ := hv
  have hx := B.exec
  have hb := B.bytes
  have hr := B.returns
  have hts := atoms_spec (ws := wc_X7_markRings) B.pre
  have hT : ∀ w ∈ wC, w.before ([.ref (u r0)] : List Value).toArray s = true := fun w h => hts w (List.mem_cons_of_mem _ h)
  have hown : s.vm.findClass RX7 = some m.cls := findClass_of_methodNamed B.named
  have hlocks := B.notSynchronized
  have hU : uw_inj (cX vl) u (tw_A (cX vl) u) := ⟨hU0, fun h hh => ⟨h, hh, rfl⟩⟩
  have hM : uw_M D vwCl (cX vl) q (tw_A (cX vl) u) s.heap u z s.heap [] := ⟨hP, va_S.rf⟩
  have hl := lv_entry ([.ref (u r0)]) (n := 5) (Nat.le_of_ble_eq_true rfl)
  rw [lg_entry_eq]
  generalize (lg_sl ([.ref (u r0)]) ++ List.replicate (5 - (lg_sl ([.ref (u r0)])).length) Slot.unset).toArray = ls at hl ⊢
  have hl : lv_has ls 5 [(0, .ref (u r0))] := hl
  refine ow_named (fun QQ hQQ => ?_)
  generalize ([.ref (u r0)] : List Value).toArray = args at hts hT hQQ ⊢
  have key : ∀ k : Nat, (∀ (x1 : Int32) (x2 : Int32) (x3 : Int32) (x4 : Int32) (r0 : Nat) (z : ow_MS) (H : Heap) (locs : List Loc) (ls : Array Slot), cw_X7 r0 → uw_M D vwCl (cX vl) q (tw_A (cX vl) u) s.heap u z H locs → lv_has ls 5 [(0, .ref (u r0))] → c_X7_markRings vl K k 0 x1 x2 x3 x4 r0 z = some z1 → W p l e ({ frames := 2, cells := 0, slots := 0, locals := 46 } : Room) s m args below meth c H locs 0 0 QQ (F0 m 0 ls [])) ∧ (∀ (x1 : Int32) (x2 : Int32) (x3 : Int32) (x4 : Int32) (r0 : Nat) (z : ow_MS) (H : Heap) (locs : List Loc) (ls : Array Slot), cw_X7 r0 → uw_M D vwCl (cX vl) q (tw_A (cX vl) u) s.heap u z H locs → lv_has ls 5 [(0, .ref (u r0)), (1, .int x1), (2, .int x2)] → c_X7_markRings vl K k 1 x1 x2 x3 x4 r0 z = some z1 → W p l e ({ frames := 2, cells := 0, slots := 0, locals := 46 } : Room) s m args below meth c H locs 0 0 QQ (F0 m 24 ls [])) ∧ (∀ (x1 : Int32) (x2 : Int32) (x3 : Int32) (x4 : Int32) (r0 : Nat) (z : ow_MS) (H : Heap) (locs : List Loc) (ls : Array Slot), cw_X7 r0 → uw_M D vwCl (cX vl) q (tw_A (cX vl) u) s.heap u z H locs → lv_has ls 5 [(0, .ref (u r0)), (1, .int x1), (2, .int x2), (3, .int x3), (4, .int x4)] → c_X7_markRings vl K k 2 x1 x2 x3 x4 r0 z = some z1 → W p l e ({ frames := 2, cells := 0, slots := 0, locals := 46 } : Room) s m args below meth c H locs 0 0 QQ (F0 m 47 ls [])) ∧ (∀ (x1 : Int32) (x2 : Int32) (x3 : Int32) (x4 : Int32) (r0 : Nat) (z : ow_MS) (H : Heap) (locs : List Loc) (ls : Array Slot), cw_X7 r0 → uw_M D vwCl (cX vl) q (tw_A (cX vl) u) s.heap u z H locs → lv_has ls 5 [(0, .ref (u r0)), (1, .int x1), (2, .int x2), (3, .int x3), (4, .int x4)] → c_X7_markRings vl K k 3 x1 x2 x3 x4 r0 z = some z1 → W p l e ({ frames := 2, cells := 0, slots := 0, locals := 46 } : Room) s m args below meth c H locs 0 0 QQ (F0 m 86 ls [])) ∧ (∀ (x1 : Int32) (x2 : Int32) (x3 : Int32) (x4 : Int32) (r0 : Nat) (z : ow_MS) (H : Heap) (locs : List Loc) (ls : Array Slot), cw_X7 r0 → uw_M D vwCl (cX vl) q (tw_A (cX vl) u) s.heap u z H locs → lv_has ls 5 [(0, .ref (u r0)), (1, .int x1), (2, .int x2)] → c_X7_markRings vl K k 4 x1 x2 x3 x4 r0 z = some z1 → W p l e ({ frames := 2, cells := 0, slots := 0, locals := 46 } : Room) s m args below meth c H locs 0 0 QQ (F0 m 96 ls [])) := by
    intro k
    induction k with
    | zero => exact ⟨fun _ _ _ _ _ _ _ _ _ _ _ _ hq => cw_no hq, fun _ _ _ _ _ _ _ _ _ _ _ _ hq => cw_no hq, fun _ _ _ _ _ _ _ _ _ _ _ _ hq => cw_no hq, fun _ _ _ _ _ _ _ _ _ _ _ _ hq => cw_no hq, fun _ _ _ _ _ _ _ _ _ _ _ _ hq => cw_no hq⟩
    | succ k ih =>
      obtain ⟨ih_0, ih_1, ih_2, ih_3, ih_4⟩ := ih
      refine ⟨?_, ?_, ?_, ?_, ?_⟩
      · intro x1 x2 x3 x4 r0 z H locs ls hr0 hM hl hq
        have hq : cm_X7_markRings_0 vl K (c_X7_markRings vl K k) x1 x2 x3 x4 r0 z = some z1 := hq
        unfold cm_X7_markRings_0 at hq
        refine lv_iconst (v := 2) hx hb dcX7_markRings_0 (by decide) ?_
        refine lv_aload_n hx hb dcX7_markRings_1 rfl (lv_at hl 0 rfl) ?_
        refine vgX7_39 hx hb hT hown hK hM hr0 hq dcX7_markRings_2 (fun v1 hq => ?_)
        refine lv_imul hx hb dcX7_markRings_5 ?_
        refine lv_istore_n (lv' := [(1, .int (2 * v1)), (0, .ref (u r0))]) hx hb dcX7_markRings_6 rfl hl (by decide) rfl (fun ls hl => ?_)
        refine lv_aload_n hx hb dcX7_markRings_7 rfl (lv_at hl 1 rfl) ?_
        refine vgX7_24 hx hb hT hown hK hM hr0 dcX7_markRings_8 ?_
        refine lv_iconst (v := 0) hx hb dcX7_markRings_11 (by decide) ?_
        refine lv_iload_n hx hb dcX7_markRings_12 rfl (lv_at hl 0 rfl) ?_
        refine lv_iconst (v := (-1)) hx hb dcX7_markRings_13 (by decide) ?_
        obtain ⟨z2, hcq, hq⟩ := tw_cl0 hq
        refine uw_calv hU hM (va_runS (As := [.ref (u (r0 + 5)), .int 0, .int (2 * v1), .int (-1)]) (rest := []) ⟨hx, hb, hml, hown, hts⟩ (kc_J7_fill_fda19 l D q vl u hU.1 K (r0 + 5) 0 (2 * v1) (-1) (cr_X7_4 hr0) z z2 hcq) (va_cwS 4 hts (tw_gS wC_good xq_61 xq_62 xq_9 xq_63) rfl rfl rfl cdd_J7_fill_fda19 ⟨(Nat.le_of_ble_eq_true rfl), (Nat.le_of_ble_eq_true rfl)⟩) (cw_preS hK hM) rfl rfl hl.1 rfl (lv_room (Nat.le_of_ble_eq_true rfl)) dcX7_markRings_14 ⟨(Nat.le_of_ble_eq_true rfl), (Nat.le_of_ble_eq_true rfl)⟩) (fun H locs hM => ?_)
        refine lv_aload_n hx hb dcX7_markRings_17 rfl (lv_at hl 1 rfl) ?_
        refine lv_iconst (v := 0) hx hb dcX7_markRings_18 (by decide) ?_
        refine vpX7_45 hx hb hT hown hK hM hU hr0 hq dcX7_markRings_19 (fun z3 H locs hM hq => ?_)
        refine lv_iconst (v := 0) hx hb dcX7_markRings_22 (by decide) ?_
        refine lv_istore_n (lv' := [(2, .int 0), (1, .int (2 * v1)), (0, .ref (u r0))]) hx hb dcX7_markRings_23 rfl hl (by decide) rfl (fun ls hl => ?_)
        exact ih_1 (2 * v1) 0 0 0 r0 z3 H locs ls hr0 hM (lv_sub hl [2, 1, 0] rfl) hq
      · intro x1 x2 x3 x4 r0 z H locs ls hr0 hM hl hq
        have hq : cm_X7_markRings_1 vl K (c_X7_markRings vl K k) x1 x2 x3 x4 r0 z = some z1 := hq
        unfold cm_X7_markRings_1 at hq
        refine lv_iload_n hx hb dcX7_markRings_24 rfl (lv_at hl 2 rfl) ?_
        refine lv_iload_n hx hb dcX7_markRings_25 rfl (lv_at hl 1 rfl) ?_
        refine lv_icmp_ge (tgt := 102) hx hb dcX7_markRings_26 (by decide) (fun hc => ?_) (fun hc => ?_)
        · have hq := tw_it hq hc
          exact cw_vret hx hb hr hlocks hM hq hQQ dcX7_markRings_102
        · have hq := tw_if hq hc
          refine lv_aload_n hx hb dcX7_markRings_29 rfl (lv_at hl 0 rfl) ?_
          refine vgX7_24 hx hb hT hown hK hM hr0 dcX7_markRings_30 ?_
          refine lv_iload_n hx hb dcX7_markRings_33 rfl (lv_at hl 2 rfl) ?_
          refine uw_iald cX_ok hx hb hK hM (cr_X7_4 hr0) hq dcX7_markRings_34 (fun v4 hq => ?_)
          refine lv_iconst (v := (-1)) hx hb dcX7_markRings_35 (by decide) ?_
          refine lv_icmp_eq (tgt := 42) hx hb dcX7_markRings_36 (by decide) (fun hc => ?_) (fun hc => ?_)
          · have hq := tw_it hq hc
            refine lv_iload_n hx hb dcX7_markRings_42 rfl (lv_at hl 2 rfl) ?_
            refine lv_istore_n (lv' := [(3, .int x2), (0, .ref (u r0)), (1, .int x1), (2, .int x2)]) hx hb dcX7_markRings_43 rfl hl (by decide) rfl (fun ls hl => ?_)
            refine lv_iconst (v := 0) hx hb dcX7_markRings_44 (by decide) ?_
            refine lv_istore (lv' := [(4, .int 0), (3, .int x2), (0, .ref (u r0)), (1, .int x1), (2, .int x2)]) hx hb dcX7_markRings_45 hl (by decide) rfl (fun ls hl => ?_)
            exact ih_2 x1 x2 x2 0 r0 z H locs ls hr0 hM (lv_sub hl [2, 3, 4, 1, 0] rfl) hq
          · have hq := tw_if hq hc
            refine lv_goto (tgt := 96) hx hb dcX7_markRings_39 (by decide) ?_
            exact ih_4 x1 x2 0 0 r0 z H locs ls hr0 hM (lv_sub hl [0, 1, 2] rfl) hq
      · intro x1 x2 x3 x4 r0 z H locs ls hr0 hM hl hq
        have hq : cm_X7_markRings_2 vl K (c_X7_markRings vl K k) x1 x2 x3 x4 r0 z = some z1 := hq
        unfold cm_X7_markRings_2 at hq
        refine lv_iload hx hb dcX7_markRings_47 (lv_at hl 4 rfl) ?_
        refine lv_iload_n hx hb dcX7_markRings_49 rfl (lv_at hl 1 rfl) ?_
        refine lv_icmp_ge (tgt := 86) hx hb dcX7_markRings_50 (by decide) (fun hc => ?_) (fun hc => ?_)
        · have hq := tw_it hq hc
          exact ih_3 x1 x2 x3 x4 r0 z H locs ls hr0 hM (lv_sub hl [0, 1, 2, 3, 4] rfl) hq
        · have hq := tw_if hq hc
          refine lv_aload_n hx hb dcX7_markRings_53 rfl (lv_at hl 0 rfl) ?_
          refine vgX7_24 hx hb hT hown hK hM hr0 dcX7_markRings_54 ?_
          refine lv_iload_n hx hb dcX7_markRings_57 rfl (lv_at hl 3 rfl) ?_
          refine uw_iald cX_ok hx hb hK hM (cr_X7_4 hr0) hq dcX7_markRings_58 (fun v5 hq => ?_)
          refine lv_iconst (v := (-1)) hx hb dcX7_markRings_59 (by decide) ?_
          refine lv_icmp_ne (tgt := 86) hx hb dcX7_markRings_60 (by decide) (fun hc => ?_) (fun hc => ?_)
          · have hq := tw_if hq hc
            exact ih_3 x1 x2 x3 x4 r0 z H locs ls hr0 hM (lv_sub hl [0, 1, 2, 3, 4] rfl) hq
          · have hq := tw_it hq hc
            refine lv_aload_n hx hb dcX7_markRings_63 rfl (lv_at hl 0 rfl) ?_
            refine vgX7_24 hx hb hT hown hK hM hr0 dcX7_markRings_64 ?_
            refine lv_iload_n hx hb dcX7_markRings_67 rfl (lv_at hl 3 rfl) ?_
            refine lv_aload_n hx hb dcX7_markRings_68 rfl (lv_at hl 0 rfl) ?_
            refine vgX7_45 hx hb hT hown hK hM hr0 hq dcX7_markRings_69 (fun v6 hq => ?_)
            refine uw_iast cX_ok hU hx hb hK hM (cr_X7_4 hr0) hq dcX7_markRings_72 (fun z7 H locs hM hq => ?_)
            refine lv_aload_n hx hb dcX7_markRings_73 rfl (lv_at hl 0 rfl) ?_
            refine vgX7_9 hx hb hT hown hK hM hr0 dcX7_markRings_74 ?_
            refine lv_iload_n hx hb dcX7_markRings_77 rfl (lv_at hl 3 rfl) ?_
            refine uw_iald cX_ok hx hb hK hM (cr_X7_0 hr0) hq dcX7_markRings_78 (fun v8 hq => ?_)
            refine lv_istore_n (lv' := [(3, .int v8), (0, .ref (u r0)), (1, .int x1), (2, .int x2), (4, .int x4)]) hx hb dcX7_markRings_79 rfl hl (by decide) rfl (fun ls hl => ?_)
            refine lv_iinc (v := (x4 + 1)) (lv' := [(4, .int (x4 + 1)), (3, .int v8), (0, .ref (u r0)), (1, .int x1), (2, .int x2)]) hx hb dcX7_markRings_80 hl (k := 4) rfl rfl (by decide) rfl (fun ls hl => ?_)
            refine lv_goto (tgt := 47) hx hb dcX7_markRings_83 (by decide) ?_
            exact ih_2 x1 x2 v8 (x4 + 1) r0 z7 H locs ls hr0 hM (lv_sub hl [2, 3, 4, 1, 0] rfl) hq
      · intro x1 x2 x3 x4 r0 z H locs ls hr0 hM hl hq
        have hq : cm_X7_markRings_3 vl K (c_X7_markRings vl K k) x1 x2 x3 x4 r0 z = some z1 := hq
        unfold cm_X7_markRings_3 at hq
        refine lv_aload_n hx hb dcX7_markRings_86 rfl (lv_at hl 0 rfl) ?_
        refine lv_dup hx hb dcX7_markRings_87 rfl ?_
        refine vgX7_45 hx hb hT hown hK hM hr0 hq dcX7_markRings_88 (fun v9 hq => ?_)
        refine lv_iconst (v := 1) hx hb dcX7_markRings_91 (by decide) ?_
        refine lv_iadd hx hb dcX7_markRings_92 ?_
        refine vpX7_45 hx hb hT hown hK hM hU hr0 hq dcX7_markRings_93 (fun z10 H locs hM hq => ?_)
        exact ih_4 x1 x2 0 0 r0 z10 H locs ls hr0 hM (lv_sub hl [0, 1, 2] rfl) hq
      · intro x1 x2 x3 x4 r0 z H locs ls hr0 hM hl hq
        have hq : cm_X7_markRings_4 vl K (c_X7_markRings vl K k) x1 x2 x3 x4 r0 z = some z1 := hq
        unfold cm_X7_markRings_4 at hq
        refine lv_iinc (v := (x2 + 1)) (lv' := [(2, .int (x2 + 1)), (0, .ref (u r0)), (1, .int x1)]) hx hb dcX7_markRings_96 hl (k := 2) rfl rfl (by decide) rfl (fun ls hl => ?_)
        refine lv_goto (tgt := 24) hx hb dcX7_markRings_99 (by decide) ?_
        exact ih_1 x1 (x2 + 1) 0 0 r0 z H locs ls hr0 hM (lv_sub hl [1, 2, 0] rfl) hq
  exact (key K).1 0 0 0 0 r0 z s.heap [] ls hr0 hM (lv_sub hl [0] rfl) hq
theorem dcX7_partOnce_0 : decode cX7_partOnce 0 = .ok (.aload_n 0, 1) := dw_at cX7_partOnce_k0 (p := 0) rfl (by decide +kernel)
theorem dcX7_partOnce_1 : decode cX7_partOnce 1 = .ok (.invokevirtual 97, 3) := dw_at cX7_partOnce_k0 (p := 1) rfl (by decide +kernel)
theorem dcX7_partOnce_4 : decode cX7_partOnce 4 = .ok (.aload_n 0, 1) := dw_at cX7_partOnce_k0 (p := 4) rfl (by decide +kernel)
theorem dcX7_partOnce_5 : decode cX7_partOnce 5 = .ok (.invokevirtual 100, 3) := dw_at cX7_partOnce_k0 (p := 5) rfl (by decide +kernel)
theorem dcX7_partOnce_8 : decode cX7_partOnce 8 = .ok (.aload_n 0, 1) := dw_at cX7_partOnce_k0 (p := 8) rfl (by decide +kernel)
theorem dcX7_partOnce_9 : decode cX7_partOnce 9 = .ok (.getfield 90, 3) := dw_at cX7_partOnce_k0 (p := 9) rfl (by decide +kernel)
theorem dcX7_partOnce_12 : decode cX7_partOnce 12 = .ok (.istore_n 1, 1) := dw_at cX7_partOnce_k0 (p := 12) rfl (by decide +kernel)
theorem dcX7_partOnce_13 : decode cX7_partOnce 13 = .ok (.iconst 0, 1) := dw_at cX7_partOnce_k0 (p := 13) rfl (by decide +kernel)
theorem dcX7_partOnce_14 : decode cX7_partOnce 14 = .ok (.istore_n 2, 1) := dw_at cX7_partOnce_k0 (p := 14) rfl (by decide +kernel)
theorem dcX7_partOnce_15 : decode cX7_partOnce 15 = .ok (.iload_n 2, 1) := dw_at cX7_partOnce_k0 (p := 15) rfl (by decide +kernel)
theorem dcX7_partOnce_16 : decode cX7_partOnce 16 = .ok (.iconst 2, 1) := dw_at cX7_partOnce_k0 (p := 16) rfl (by decide +kernel)
theorem dcX7_partOnce_17 : decode cX7_partOnce 17 = .ok (.aload_n 0, 1) := dw_at cX7_partOnce_k0 (p := 17) rfl (by decide +kernel)
theorem dcX7_partOnce_18 : decode cX7_partOnce 18 = .ok (.getfield 39, 3) := dw_at cX7_partOnce_k0 (p := 18) rfl (by decide +kernel)
theorem dcX7_partOnce_21 : decode cX7_partOnce 21 = .ok (.imul, 1) := dw_at cX7_partOnce_k0 (p := 21) rfl (by decide +kernel)
theorem dcX7_partOnce_22 : decode cX7_partOnce 22 = .ok (.if_icmp .ge 73, 3) := dw_at cX7_partOnce_k0 (p := 22) rfl (by decide +kernel)
theorem dcX7_partOnce_25 : decode cX7_partOnce 25 = .ok (.iload_n 2, 1) := dw_at cX7_partOnce_k1 (p := 0) rfl (by decide +kernel)
theorem dcX7_partOnce_26 : decode cX7_partOnce 26 = .ok (.iconst 1, 1) := dw_at cX7_partOnce_k1 (p := 1) rfl (by decide +kernel)
theorem dcX7_partOnce_27 : decode cX7_partOnce 27 = .ok (.iadd, 1) := dw_at cX7_partOnce_k1 (p := 2) rfl (by decide +kernel)
theorem dcX7_partOnce_28 : decode cX7_partOnce 28 = .ok (.istore_n 3, 1) := dw_at cX7_partOnce_k1 (p := 3) rfl (by decide +kernel)
theorem dcX7_partOnce_29 : decode cX7_partOnce 29 = .ok (.iload_n 3, 1) := dw_at cX7_partOnce_k1 (p := 4) rfl (by decide +kernel)
theorem dcX7_partOnce_30 : decode cX7_partOnce 30 = .ok (.iconst 2, 1) := dw_at cX7_partOnce_k1 (p := 5) rfl (by decide +kernel)
theorem dcX7_partOnce_31 : decode cX7_partOnce 31 = .ok (.aload_n 0, 1) := dw_at cX7_partOnce_k1 (p := 6) rfl (by decide +kernel)
theorem dcX7_partOnce_32 : decode cX7_partOnce 32 = .ok (.getfield 39, 3) := dw_at cX7_partOnce_k1 (p := 7) rfl (by decide +kernel)
theorem dcX7_partOnce_35 : decode cX7_partOnce 35 = .ok (.imul, 1) := dw_at cX7_partOnce_k1 (p := 10) rfl (by decide +kernel)
theorem dcX7_partOnce_36 : decode cX7_partOnce 36 = .ok (.if_icmp .ge 53, 3) := dw_at cX7_partOnce_k1 (p := 11) rfl (by decide +kernel)
theorem dcX7_partOnce_39 : decode cX7_partOnce 39 = .ok (.aload_n 0, 1) := dw_at cX7_partOnce_k1 (p := 14) rfl (by decide +kernel)
theorem dcX7_partOnce_40 : decode cX7_partOnce 40 = .ok (.getfield 24, 3) := dw_at cX7_partOnce_k1 (p := 15) rfl (by decide +kernel)
theorem dcX7_partOnce_43 : decode cX7_partOnce 43 = .ok (.iload_n 2, 1) := dw_at cX7_partOnce_k1 (p := 18) rfl (by decide +kernel)
theorem dcX7_partOnce_44 : decode cX7_partOnce 44 = .ok (.iaload, 1) := dw_at cX7_partOnce_k1 (p := 19) rfl (by decide +kernel)
theorem dcX7_partOnce_45 : decode cX7_partOnce 45 = .ok (.aload_n 0, 1) := dw_at cX7_partOnce_k1 (p := 20) rfl (by decide +kernel)
theorem dcX7_partOnce_46 : decode cX7_partOnce 46 = .ok (.getfield 24, 3) := dw_at cX7_partOnce_k1 (p := 21) rfl (by decide +kernel)
theorem dcX7_partOnce_49 : decode cX7_partOnce 49 = .ok (.iload_n 3, 1) := dw_at cX7_partOnce_k2 (p := 0) rfl (by decide +kernel)
theorem dcX7_partOnce_50 : decode cX7_partOnce 50 = .ok (.iaload, 1) := dw_at cX7_partOnce_k2 (p := 1) rfl (by decide +kernel)
theorem dcX7_partOnce_51 : decode cX7_partOnce 51 = .ok (.if_icmp .eq 6, 3) := dw_at cX7_partOnce_k2 (p := 2) rfl (by decide +kernel)
theorem dcX7_partOnce_54 : decode cX7_partOnce 54 = .ok (.goto 29, 3) := dw_at cX7_partOnce_k2 (p := 5) rfl (by decide +kernel)
theorem dcX7_partOnce_57 : decode cX7_partOnce 57 = .ok (.aload_n 0, 1) := dw_at cX7_partOnce_k2 (p := 8) rfl (by decide +kernel)
theorem dcX7_partOnce_58 : decode cX7_partOnce 58 = .ok (.iload_n 2, 1) := dw_at cX7_partOnce_k2 (p := 9) rfl (by decide +kernel)
theorem dcX7_partOnce_59 : decode cX7_partOnce 59 = .ok (.iload_n 3, 1) := dw_at cX7_partOnce_k2 (p := 10) rfl (by decide +kernel)
theorem dcX7_partOnce_60 : decode cX7_partOnce 60 = .ok (.invokevirtual 71, 3) := dw_at cX7_partOnce_k2 (p := 11) rfl (by decide +kernel)
theorem dcX7_partOnce_63 : decode cX7_partOnce 63 = .ok (.aload_n 0, 1) := dw_at cX7_partOnce_k2 (p := 14) rfl (by decide +kernel)
theorem dcX7_partOnce_64 : decode cX7_partOnce 64 = .ok (.invokevirtual 100, 3) := dw_at cX7_partOnce_k2 (p := 15) rfl (by decide +kernel)
theorem dcX7_partOnce_67 : decode cX7_partOnce 67 = .ok (.aload_n 0, 1) := dw_at cX7_partOnce_k2 (p := 18) rfl (by decide +kernel)
theorem dcX7_partOnce_68 : decode cX7_partOnce 68 = .ok (.getfield 90, 3) := dw_at cX7_partOnce_k2 (p := 19) rfl (by decide +kernel)
theorem dcX7_partOnce_71 : decode cX7_partOnce 71 = .ok (.iload_n 1, 1) := dw_at cX7_partOnce_k2 (p := 22) rfl (by decide +kernel)
theorem dcX7_partOnce_72 : decode cX7_partOnce 72 = .ok (.if_icmp .le 5, 3) := dw_at cX7_partOnce_k2 (p := 23) rfl (by decide +kernel)
theorem dcX7_partOnce_75 : decode cX7_partOnce 75 = .ok (.iconst 1, 1) := dw_at cX7_partOnce_k3 (p := 0) rfl (by decide +kernel)
theorem dcX7_partOnce_76 : decode cX7_partOnce 76 = .ok (.ireturn, 1) := dw_at cX7_partOnce_k3 (p := 1) rfl (by decide +kernel)
theorem dcX7_partOnce_77 : decode cX7_partOnce 77 = .ok (.aload_n 0, 1) := dw_at cX7_partOnce_k3 (p := 2) rfl (by decide +kernel)
theorem dcX7_partOnce_78 : decode cX7_partOnce 78 = .ok (.iload_n 2, 1) := dw_at cX7_partOnce_k3 (p := 3) rfl (by decide +kernel)
theorem dcX7_partOnce_79 : decode cX7_partOnce 79 = .ok (.iload_n 3, 1) := dw_at cX7_partOnce_k3 (p := 4) rfl (by decide +kernel)
theorem dcX7_partOnce_80 : decode cX7_partOnce 80 = .ok (.invokevirtual 71, 3) := dw_at cX7_partOnce_k3 (p := 5) rfl (by decide +kernel)
theorem dcX7_partOnce_83 : decode cX7_partOnce 83 = .ok (.iinc 3 1, 3) := dw_at cX7_partOnce_k3 (p := 8) rfl (by decide +kernel)
theorem dcX7_partOnce_86 : decode cX7_partOnce 86 = .ok (.goto (-57), 3) := dw_at cX7_partOnce_k3 (p := 11) rfl (by decide +kernel)
theorem dcX7_partOnce_89 : decode cX7_partOnce 89 = .ok (.iinc 2 1, 3) := dw_at cX7_partOnce_k3 (p := 14) rfl (by decide +kernel)
theorem dcX7_partOnce_92 : decode cX7_partOnce 92 = .ok (.goto (-77), 3) := dw_at cX7_partOnce_k3 (p := 17) rfl (by decide +kernel)
theorem dcX7_partOnce_95 : decode cX7_partOnce 95 = .ok (.iconst 0, 1) := dw_at cX7_partOnce_k3 (p := 20) rfl (by decide +kernel)
theorem dcX7_partOnce_96 : decode cX7_partOnce 96 = .ok (.ireturn, 1) := dw_at cX7_partOnce_k3 (p := 21) rfl (by decide +kernel)
def cm_X7_partOnce_0 (vl : Nat → Nat) (K : Nat) (go : Nat → Int32 → Int32 → Int32 → Nat → ow_MS → Option (Int32 × ow_MS)) (x1 : Int32) (x2 : Int32) (x3 : Int32) (r0 : Nat) (z : ow_MS) : Option (Int32 × ow_MS) :=
 cs0 (ce_X7_markRings vl K r0 z) fun z1 => cs0 (ce_X7_markParts vl K r0 z1) fun z2 => rdF z2 (r0 + 11) fun v3 => go 1 v3 0 0 r0 z2
def cm_X7_partOnce_1 (vl : Nat → Nat) (K : Nat) (go : Nat → Int32 → Int32 → Int32 → Nat → ow_MS → Option (Int32 × ow_MS)) (x1 : Int32) (x2 : Int32) (x3 : Int32) (r0 : Nat) (z : ow_MS) : Option (Int32 × ow_MS) :=
 rdF z (r0 + 8) fun v4 => (if (2 * v4) ≤ x2 then okZ 0 (some (0, z))
 else go 2 x1 x2 (x2 + 1) r0 z)
def cm_X7_partOnce_2 (vl : Nat → Nat) (K : Nat) (go : Nat → Int32 → Int32 → Int32 → Nat → ow_MS → Option (Int32 × ow_MS)) (x1 : Int32) (x2 : Int32) (x3 : Int32) (r0 : Nat) (z : ow_MS) : Option (Int32 × ow_MS) :=
 rdF z (r0 + 8) fun v5 => (if (2 * v5) ≤ x3 then go 1 x1 (x2 + 1) 0 r0 z
 else crI (cX vl) z (r0 + 5) x2 fun v6 => crI (cX vl) z (r0 + 5) x3 fun v7 => (if v6 = v7 then cs0 (ce_X7_exchange vl K r0 x2 x3 z) fun z8 => cs0 (ce_X7_markParts vl K r0 z8) fun z9 => rdF z9 (r0 + 11) fun v10 => (if v10 ≤ x1 then cs0 (ce_X7_exchange vl K r0 x2 x3 z9) fun z11 => go 3 x1 x2 x3 r0 z11
 else okZ 1 (some (1, z9)))
 else go 3 x1 x2 x3 r0 z))
def cm_X7_partOnce_3 (vl : Nat → Nat) (K : Nat) (go : Nat → Int32 → Int32 → Int32 → Nat → ow_MS → Option (Int32 × ow_MS)) (x1 : Int32) (x2 : Int32) (x3 : Int32) (r0 : Nat) (z : ow_MS) : Option (Int32 × ow_MS) :=
 go 2 x1 x2 (x3 + 1) r0 z
def cb_X7_partOnce (vl : Nat → Nat) (K : Nat) (go : Nat → Int32 → Int32 → Int32 → Nat → ow_MS → Option (Int32 × ow_MS)) (L : Nat) (x1 : Int32) (x2 : Int32) (x3 : Int32) (r0 : Nat) (z : ow_MS) : Option (Int32 × ow_MS) := match L with
  | 0 => cm_X7_partOnce_0 vl K go x1 x2 x3 r0 z
  | 1 => cm_X7_partOnce_1 vl K go x1 x2 x3 r0 z
  | 2 => cm_X7_partOnce_2 vl K go x1 x2 x3 r0 z
  | 3 => cm_X7_partOnce_3 vl K go x1 x2 x3 r0 z
  | _ => none
def c_X7_partOnce (vl : Nat → Nat) (K : Nat) : Nat → Nat → Int32 → Int32 → Int32 → Nat → ow_MS → Option (Int32 × ow_MS)
  | 0 => fun _ _ _ _ _ _ => none
  | k + 1 => cb_X7_partOnce vl K (c_X7_partOnce vl K k)
def ce_X7_partOnce (vl : Nat → Nat) (K : Nat) (r0 : Nat) (z : ow_MS) : Option (Int32 × ow_MS) := c_X7_partOnce vl K K 0 0 0 0 r0 z
abbrev wc_X7_partOnce : List Cond := .code yX7_partOnce cX7_partOnce 4 (some .boolean) :: wC
theorem cdd_X7_partOnce : yX7_partOnce.cls = RX7 ∧ yX7_partOnce.cls ≠ "java/lang/invoke/MethodHandle" ∧ yX7_partOnce.cls ≠ "java/lang/invoke/VarHandle" ∧ (parseMethodDescriptor yX7_partOnce.desc).map (fun d => d.parameters.length) = some 0 := by decide +kernel
set_option maxHeartbeats 4000000 in
set_option maxRecDepth 100000 in
theorem kc_X7_partOnce (l : Launch) (D : va_G) (q : Nat → ClassId) (vl u : Nat → Nat) (hU0 : tw_inj (cX vl) u) (K : Nat) (r0 : Nat) (hr0 : cw_X7 r0) (z z1 : ow_MS) (r : Int32) (hq : ce_X7_partOnce vl K r0 z = some (r, z1)) : Met l yX7_partOnce wc_X7_partOnce ({ frames := 3, cells := 0, slots := 0, locals := 72 } : Room) (va_Pc [.ref (u r0)] (cw_pre D q vl u z)) (va_Qi (fun x (_ : Unit) => x = r) (fun _ t => va_P D vwCl (uw (cX vl) q u z1) t.heap) (tw_A (cX vl) u)) 0 0 (tw_A (cX vl) u) := by
  refine Met.ofW (cc := cX7_partOnce) (maxL := 4) (ret := (some .boolean)) (by decide) rfl ?_
  intro p e s m args below meth c s₁ B hml hv
  obtain ⟨rfl, hP, hK⟩ := hv
  have hx := B.exec
  have hb := B.bytes
  have hr := B.returns
  have hts := atoms_spec (ws := wc_X7_partOnce) B.pre
  have hT : ∀ w ∈ wC, w.before ([.ref (u r0)] : List Value).toArray s = true := fun w h => hts w (List.mem_cons_of_mem _ h)
  have hown : s.vm.findClass RX7 = some m.cls := findClass_of_methodNamed B.named
  have hlocks := B.notSynchronized
  have hU : uw_inj (cX vl) u (tw_A (cX vl) u) := ⟨hU0, fun h hh => ⟨h, hh, rfl⟩⟩
  have hM : uw_M D vwCl (cX vl) q (tw_A (cX vl) u) s.heap u z s.heap [] := ⟨hP, va_S.rf⟩
  have hl := lv_entry ([.ref (u r0)]) (n := 4) (Nat.le_of_ble_eq_true rfl)
  rw [lg_entry_eq]
  generalize (lg_sl ([.ref (u r0)]) ++ List.replicate (4 - (lg_sl ([.ref (u r0)])).length) Slot.unset).toArray = ls at hl ⊢
  have hl : lv_has ls 4 [(0, .ref (u r0))] := hl
  refine ow_named (fun QQ hQQ => ?_)
  generalize ([.ref (u r0)] : List Value).toArray = args at hts hT hQQ ⊢
  have key : ∀ k : Nat, (∀ (x1 : Int32) (x2 : Int32) (x3 : Int32) (r0 : Nat) (z : ow_MS) (H : Heap) (locs : List Loc) (ls : Array Slot), cw_X7 r0 → uw_M D vwCl (cX vl) q (tw_A (cX vl) u) s.heap u z H locs → lv_has ls 4 [(0, .ref (u r0))] → c_X7_partOnce vl K k 0 x1 x2 x3 r0 z = some (r, z1) → W p l e ({ frames := 3, cells := 0, slots := 0, locals := 72 } : Room) s m args below meth c H locs 0 0 QQ (F0 m 0 ls [])) ∧ (∀ (x1 : Int32) (x2 : Int32) (x3 : Int32) (r0 : Nat) (z : ow_MS) (H : Heap) (locs : List Loc) (ls : Array Slot), cw_X7 r0 → uw_M D vwCl (cX vl) q (tw_A (cX vl) u) s.heap u z H locs → lv_has ls 4 [(0, .ref (u r0)), (1, .int x1), (2, .int x2)] → c_X7_partOnce vl K k 1 x1 x2 x3 r0 z = some (r, z1) → W p l e ({ frames := 3, cells := 0, slots := 0, locals := 72 } : Room) s m args below meth c H locs 0 0 QQ (F0 m 15 ls [])) ∧ (∀ (x1 : Int32) (x2 : Int32) (x3 : Int32) (r0 : Nat) (z : ow_MS) (H : Heap) (locs : List Loc) (ls : Array Slot), cw_X7 r0 → uw_M D vwCl (cX vl) q (tw_A (cX vl) u) s.heap u z H locs → lv_has ls 4 [(0, .ref (u r0)), (1, .int x1), (2, .int x2), (3, .int x3)] → c_X7_partOnce vl K k 2 x1 x2 x3 r0 z = some (r, z1) → W p l e ({ frames := 3, cells := 0, slots := 0, locals := 72 } : Room) s m args below meth c H locs 0 0 QQ (F0 m 29 ls [])) ∧ (∀ (x1 : Int32) (x2 : Int32) (x3 : Int32) (r0 : Nat) (z : ow_MS) (H : Heap) (locs : List Loc) (ls : Array Slot), cw_X7 r0 → uw_M D vwCl (cX vl) q (tw_A (cX vl) u) s.heap u z H locs → lv_has ls 4 [(0, .ref (u r0)), (1, .int x1), (2, .int x2), (3, .int x3)] → c_X7_partOnce vl K k 3 x1 x2 x3 r0 z = some (r, z1) → W p l e ({ frames := 3, cells := 0, slots := 0, locals := 72 } : Room) s m args below meth c H locs 0 0 QQ (F0 m 83 ls [])) := by
    intro k
    induction k with
    | zero => exact ⟨fun _ _ _ _ _ _ _ _ _ _ _ hq => cw_no hq, fun _ _ _ _ _ _ _ _ _ _ _ hq => cw_no hq, fun _ _ _ _ _ _ _ _ _ _ _ hq => cw_no hq, fun _ _ _ _ _ _ _ _ _ _ _ hq => cw_no hq⟩
    | succ k ih =>
      obtain ⟨ih_0, ih_1, ih_2, ih_3⟩ := ih
      refine ⟨?_, ?_, ?_, ?_⟩
      · intro x1 x2 x3 r0 z H locs ls hr0 hM hl hq
        have hq : cm_X7_partOnce_0 vl K (c_X7_partOnce vl K k) x1 x2 x3 r0 z = some (r, z1) := hq
        unfold cm_X7_partOnce_0 at hq
        refine lv_aload_n hx hb dcX7_partOnce_0 rfl (lv_at hl 0 rfl) ?_
        obtain ⟨z1, hcq, hq⟩ := tw_cl0 hq
        refine uw_calv hU hM (va_runV (As := []) (rest := []) ⟨hx, hb, hml, hown, hts⟩ (kc_X7_markRings l D q vl u hU.1 K r0 hr0 z z1 hcq) (cwV 0 hts (tw_gV wC_good xq_584 xq_585 xq_586 xq_54 xq_579) rfl rfl rfl cdd_X7_markRings ⟨(Nat.le_of_ble_eq_true rfl), (Nat.le_of_ble_eq_true rfl)⟩) (cw_preV hK hM (co_X7 hr0) rfl) rfl rfl hl.1 rfl (lv_room (Nat.le_of_ble_eq_true rfl)) dcX7_partOnce_1 ⟨(Nat.le_of_ble_eq_true rfl), (Nat.le_of_ble_eq_true rfl)⟩) (fun H locs hM => ?_)
        refine lv_aload_n hx hb dcX7_partOnce_4 rfl (lv_at hl 0 rfl) ?_
        obtain ⟨z2, hcq, hq⟩ := tw_cl0 hq
        refine uw_calv hU hM (va_runV (As := []) (rest := []) ⟨hx, hb, hml, hown, hts⟩ (kc_X7_markParts l D q vl u hU.1 K r0 hr0 z1 z2 hcq) (cwV 0 hts (tw_gV wC_good xq_587 xq_52 xq_53 xq_54 xq_55) rfl rfl rfl cdd_X7_markParts ⟨(Nat.le_of_ble_eq_true rfl), (Nat.le_of_ble_eq_true rfl)⟩) (cw_preV hK hM (co_X7 hr0) rfl) rfl rfl hl.1 rfl (lv_room (Nat.le_of_ble_eq_true rfl)) dcX7_partOnce_5 ⟨(Nat.le_of_ble_eq_true rfl), (Nat.le_of_ble_eq_true rfl)⟩) (fun H locs hM => ?_)
        refine lv_aload_n hx hb dcX7_partOnce_8 rfl (lv_at hl 0 rfl) ?_
        refine vgX7_90 hx hb hT hown hK hM hr0 hq dcX7_partOnce_9 (fun v3 hq => ?_)
        refine lv_istore_n (lv' := [(1, .int v3), (0, .ref (u r0))]) hx hb dcX7_partOnce_12 rfl hl (by decide) rfl (fun ls hl => ?_)
        refine lv_iconst (v := 0) hx hb dcX7_partOnce_13 (by decide) ?_
        refine lv_istore_n (lv' := [(2, .int 0), (1, .int v3), (0, .ref (u r0))]) hx hb dcX7_partOnce_14 rfl hl (by decide) rfl (fun ls hl => ?_)
        exact ih_1 v3 0 0 r0 z2 H locs ls hr0 hM (lv_sub hl [2, 1, 0] rfl) hq
      · intro x1 x2 x3 r0 z H locs ls hr0 hM hl hq
        have hq : cm_X7_partOnce_1 vl K (c_X7_partOnce vl K k) x1 x2 x3 r0 z = some (r, z1) := hq
        unfold cm_X7_partOnce_1 at hq
        refine lv_iload_n hx hb dcX7_partOnce_15 rfl (lv_at hl 2 rfl) ?_
        refine lv_iconst (v := 2) hx hb dcX7_partOnce_16 (by decide) ?_
        refine lv_aload_n hx hb dcX7_partOnce_17 rfl (lv_at hl 0 rfl) ?_
        refine vgX7_39 hx hb hT hown hK hM hr0 hq dcX7_partOnce_18 (fun v4 hq => ?_)
        refine lv_imul hx hb dcX7_partOnce_21 ?_
        refine lv_icmp_ge (tgt := 95) hx hb dcX7_partOnce_22 (by decide) (fun hc => ?_) (fun hc => ?_)
        · have hq := tw_it hq hc
          refine lv_iconst (v := 0) hx hb dcX7_partOnce_95 (by decide) ?_
          obtain ⟨hz, hq⟩ := tw_gZ hq
          exact cw_zret hx hb hr hlocks hM hz hq hQQ dcX7_partOnce_96
        · have hq := tw_if hq hc
          refine lv_iload_n hx hb dcX7_partOnce_25 rfl (lv_at hl 2 rfl) ?_
          refine lv_iconst (v := 1) hx hb dcX7_partOnce_26 (by decide) ?_
          refine lv_iadd hx hb dcX7_partOnce_27 ?_
          refine lv_istore_n (lv' := [(3, .int (x2 + 1)), (0, .ref (u r0)), (1, .int x1), (2, .int x2)]) hx hb dcX7_partOnce_28 rfl hl (by decide) rfl (fun ls hl => ?_)
          exact ih_2 x1 x2 (x2 + 1) r0 z H locs ls hr0 hM (lv_sub hl [1, 2, 3, 0] rfl) hq
      · intro x1 x2 x3 r0 z H locs ls hr0 hM hl hq
        have hq : cm_X7_partOnce_2 vl K (c_X7_partOnce vl K k) x1 x2 x3 r0 z = some (r, z1) := hq
        unfold cm_X7_partOnce_2 at hq
        refine lv_iload_n hx hb dcX7_partOnce_29 rfl (lv_at hl 3 rfl) ?_
        refine lv_iconst (v := 2) hx hb dcX7_partOnce_30 (by decide) ?_
        refine lv_aload_n hx hb dcX7_partOnce_31 rfl (lv_at hl 0 rfl) ?_
        refine vgX7_39 hx hb hT hown hK hM hr0 hq dcX7_partOnce_32 (fun v5 hq => ?_)
        refine lv_imul hx hb dcX7_partOnce_35 ?_
        refine lv_icmp_ge (tgt := 89) hx hb dcX7_partOnce_36 (by decide) (fun hc => ?_) (fun hc => ?_)
        · have hq := tw_it hq hc
          refine lv_iinc (v := (x2 + 1)) (lv' := [(2, .int (x2 + 1)), (0, .ref (u r0)), (1, .int x1), (3, .int x3)]) hx hb dcX7_partOnce_89 hl (k := 2) rfl rfl (by decide) rfl (fun ls hl => ?_)
          refine lv_goto (tgt := 15) hx hb dcX7_partOnce_92 (by decide) ?_
          exact ih_1 x1 (x2 + 1) 0 r0 z H locs ls hr0 hM (lv_sub hl [1, 2, 0] rfl) hq
        · have hq := tw_if hq hc
          refine lv_aload_n hx hb dcX7_partOnce_39 rfl (lv_at hl 0 rfl) ?_
          refine vgX7_24 hx hb hT hown hK hM hr0 dcX7_partOnce_40 ?_
          refine lv_iload_n hx hb dcX7_partOnce_43 rfl (lv_at hl 2 rfl) ?_
          refine uw_iald cX_ok hx hb hK hM (cr_X7_4 hr0) hq dcX7_partOnce_44 (fun v6 hq => ?_)
          refine lv_aload_n hx hb dcX7_partOnce_45 rfl (lv_at hl 0 rfl) ?_
          refine vgX7_24 hx hb hT hown hK hM hr0 dcX7_partOnce_46 ?_
          refine lv_iload_n hx hb dcX7_partOnce_49 rfl (lv_at hl 3 rfl) ?_
          refine uw_iald cX_ok hx hb hK hM (cr_X7_4 hr0) hq dcX7_partOnce_50 (fun v7 hq => ?_)
          refine lv_icmp_eq (tgt := 57) hx hb dcX7_partOnce_51 (by decide) (fun hc => ?_) (fun hc => ?_)
          · have hq := tw_it hq hc
            refine lv_aload_n hx hb dcX7_partOnce_57 rfl (lv_at hl 0 rfl) ?_
            refine lv_iload_n hx hb dcX7_partOnce_58 rfl (lv_at hl 2 rfl) ?_
            refine lv_iload_n hx hb dcX7_partOnce_59 rfl (lv_at hl 3 rfl) ?_
            obtain ⟨z8, hcq, hq⟩ := tw_cl0 hq
            refine uw_calv hU hM (va_runV (As := [.int x2, .int x3]) (rest := []) ⟨hx, hb, hml, hown, hts⟩ (kc_X7_exchange l D q vl u hU.1 K r0 x2 x3 hr0 z z8 hcq) (cwV 2 hts (tw_gV wC_good xq_570 xq_571 xq_572 xq_54 xq_569) rfl rfl rfl cdd_X7_exchange ⟨(Nat.le_of_ble_eq_true rfl), (Nat.le_of_ble_eq_true rfl)⟩) (cw_preV hK hM (co_X7 hr0) rfl) rfl rfl hl.1 rfl (lv_room (Nat.le_of_ble_eq_true rfl)) dcX7_partOnce_60 ⟨(Nat.le_of_ble_eq_true rfl), (Nat.le_of_ble_eq_true rfl)⟩) (fun H locs hM => ?_)
            refine lv_aload_n hx hb dcX7_partOnce_63 rfl (lv_at hl 0 rfl) ?_
            obtain ⟨z9, hcq, hq⟩ := tw_cl0 hq
            refine uw_calv hU hM (va_runV (As := []) (rest := []) ⟨hx, hb, hml, hown, hts⟩ (kc_X7_markParts l D q vl u hU.1 K r0 hr0 z8 z9 hcq) (cwV 0 hts (tw_gV wC_good xq_587 xq_52 xq_53 xq_54 xq_55) rfl rfl rfl cdd_X7_markParts ⟨(Nat.le_of_ble_eq_true rfl), (Nat.le_of_ble_eq_true rfl)⟩) (cw_preV hK hM (co_X7 hr0) rfl) rfl rfl hl.1 rfl (lv_room (Nat.le_of_ble_eq_true rfl)) dcX7_partOnce_64 ⟨(Nat.le_of_ble_eq_true rfl), (Nat.le_of_ble_eq_true rfl)⟩) (fun H locs hM => ?_)
            refine lv_aload_n hx hb dcX7_partOnce_67 rfl (lv_at hl 0 rfl) ?_
            refine vgX7_90 hx hb hT hown hK hM hr0 hq dcX7_partOnce_68 (fun v10 hq => ?_)
            refine lv_iload_n hx hb dcX7_partOnce_71 rfl (lv_at hl 1 rfl) ?_
            refine lv_icmp_le (tgt := 77) hx hb dcX7_partOnce_72 (by decide) (fun hc => ?_) (fun hc => ?_)
            · have hq := tw_it hq hc
              refine lv_aload_n hx hb dcX7_partOnce_77 rfl (lv_at hl 0 rfl) ?_
              refine lv_iload_n hx hb dcX7_partOnce_78 rfl (lv_at hl 2 rfl) ?_
              refine lv_iload_n hx hb dcX7_partOnce_79 rfl (lv_at hl 3 rfl) ?_
              obtain ⟨z11, hcq, hq⟩ := tw_cl0 hq
              refine uw_calv hU hM (va_runV (As := [.int x2, .int x3]) (rest := []) ⟨hx, hb, hml, hown, hts⟩ (kc_X7_exchange l D q vl u hU.1 K r0 x2 x3 hr0 z9 z11 hcq) (cwV 2 hts (tw_gV wC_good xq_570 xq_571 xq_572 xq_54 xq_569) rfl rfl rfl cdd_X7_exchange ⟨(Nat.le_of_ble_eq_true rfl), (Nat.le_of_ble_eq_true rfl)⟩) (cw_preV hK hM (co_X7 hr0) rfl) rfl rfl hl.1 rfl (lv_room (Nat.le_of_ble_eq_true rfl)) dcX7_partOnce_80 ⟨(Nat.le_of_ble_eq_true rfl), (Nat.le_of_ble_eq_true rfl)⟩) (fun H locs hM => ?_)
              exact ih_3 x1 x2 x3 r0 z11 H locs ls hr0 hM (lv_sub hl [0, 1, 2, 3] rfl) hq
            · have hq := tw_if hq hc
              refine lv_iconst (v := 1) hx hb dcX7_partOnce_75 (by decide) ?_
              obtain ⟨hz, hq⟩ := tw_gZ hq
              exact cw_zret hx hb hr hlocks hM hz hq hQQ dcX7_partOnce_76
          · have hq := tw_if hq hc
            refine lv_goto (tgt := 83) hx hb dcX7_partOnce_54 (by decide) ?_
            exact ih_3 x1 x2 x3 r0 z H locs ls hr0 hM (lv_sub hl [0, 1, 2, 3] rfl) hq
      · intro x1 x2 x3 r0 z H locs ls hr0 hM hl hq
        have hq : cm_X7_partOnce_3 vl K (c_X7_partOnce vl K k) x1 x2 x3 r0 z = some (r, z1) := hq
        unfold cm_X7_partOnce_3 at hq
        refine lv_iinc (v := (x3 + 1)) (lv' := [(3, .int (x3 + 1)), (0, .ref (u r0)), (1, .int x1), (2, .int x2)]) hx hb dcX7_partOnce_83 hl (k := 3) rfl rfl (by decide) rfl (fun ls hl => ?_)
        refine lv_goto (tgt := 29) hx hb dcX7_partOnce_86 (by decide) ?_
        exact ih_2 x1 x2 (x3 + 1) r0 z H locs ls hr0 hM (lv_sub hl [1, 2, 3, 0] rfl) hq
  exact (key K).1 0 0 0 r0 z s.heap [] ls hr0 hM (lv_sub hl [0] rfl) hq
theorem dcX7_partAll_0 : decode cX7_partAll 0 = .ok (.iconst 0, 1) := by decide +kernel
theorem dcX7_partAll_1 : decode cX7_partAll 1 = .ok (.istore_n 1, 1) := by decide +kernel
theorem dcX7_partAll_2 : decode cX7_partAll 2 = .ok (.iload_n 1, 1) := by decide +kernel
theorem dcX7_partAll_3 : decode cX7_partAll 3 = .ok (.bipush 12, 2) := by decide +kernel
theorem dcX7_partAll_5 : decode cX7_partAll 5 = .ok (.if_icmp .ge 17, 3) := by decide +kernel
theorem dcX7_partAll_8 : decode cX7_partAll 8 = .ok (.aload_n 0, 1) := by decide +kernel
theorem dcX7_partAll_9 : decode cX7_partAll 9 = .ok (.invokevirtual 93, 3) := by decide +kernel
theorem dcX7_partAll_12 : decode cX7_partAll 12 = .ok (.ifCond .ne 4, 3) := by decide +kernel
theorem dcX7_partAll_15 : decode cX7_partAll 15 = .ok (.return_, 1) := by decide +kernel
theorem dcX7_partAll_16 : decode cX7_partAll 16 = .ok (.iinc 1 1, 3) := by decide +kernel
theorem dcX7_partAll_19 : decode cX7_partAll 19 = .ok (.goto (-17), 3) := by decide +kernel
theorem dcX7_partAll_22 : decode cX7_partAll 22 = .ok (.return_, 1) := by decide +kernel
def cm_X7_partAll_0 (vl : Nat → Nat) (K : Nat) (go : Nat → Int32 → Nat → ow_MS → Option ow_MS) (x1 : Int32) (r0 : Nat) (z : ow_MS) : Option ow_MS :=
 go 1 0 r0 z
def cm_X7_partAll_1 (vl : Nat → Nat) (K : Nat) (go : Nat → Int32 → Nat → ow_MS → Option ow_MS) (x1 : Int32) (r0 : Nat) (z : ow_MS) : Option ow_MS :=
 (if 12 ≤ x1 then some z
 else cs1 (ce_X7_partOnce vl K r0 z) fun v2 z1 => (if v2 = 0 then some z1
 else go 1 (x1 + 1) r0 z1))
def cb_X7_partAll (vl : Nat → Nat) (K : Nat) (go : Nat → Int32 → Nat → ow_MS → Option ow_MS) (L : Nat) (x1 : Int32) (r0 : Nat) (z : ow_MS) : Option ow_MS := match L with
  | 0 => cm_X7_partAll_0 vl K go x1 r0 z
  | 1 => cm_X7_partAll_1 vl K go x1 r0 z
  | _ => none
def c_X7_partAll (vl : Nat → Nat) (K : Nat) : Nat → Nat → Int32 → Nat → ow_MS → Option ow_MS
  | 0 => fun _ _ _ _ => none
  | k + 1 => cb_X7_partAll vl K (c_X7_partAll vl K k)
def ce_X7_partAll (vl : Nat → Nat) (K : Nat) (r0 : Nat) (z : ow_MS) : Option ow_MS := c_X7_partAll vl K K 0 0 r0 z
abbrev wc_X7_partAll : List Cond := .code yX7_partAll cX7_partAll 2 none :: wC
theorem cdd_X7_partAll : yX7_partAll.cls = RX7 ∧ yX7_partAll.cls ≠ "java/lang/invoke/MethodHandle" ∧ yX7_partAll.cls ≠ "java/lang/invoke/VarHandle" ∧ (parseMethodDescriptor yX7_partAll.desc).map (fun d => d.parameters.length) = some 0 := by decide +kernel
set_option maxHeartbeats 4000000 in
set_option maxRecDepth 100000 in
theorem kc_X7_partAll (l : Launch) (D : va_G) (q : Nat → ClassId) (vl u : Nat → Nat) (hU0 : tw_inj (cX vl) u) (K : Nat) (r0 : Nat) (hr0 : cw_X7 r0) (z z1 : ow_MS) (hq : ce_X7_partAll vl K r0 z = some z1) : Met l yX7_partAll wc_X7_partAll ({ frames := 4, cells := 0, slots := 0, locals := 95 } : Room) (va_Pc [.ref (u r0)] (cw_pre D q vl u z)) (va_Qv (fun (_ : Unit) => True) (fun _ t => va_P D vwCl (uw (cX vl) q u z1) t.heap) (tw_A (cX vl) u)) 0 0 (tw_A (cX vl) u) := by
  refine Met.ofW (cc := cX7_partAll) (maxL := 2) (ret := none) (by decide) rfl ?_
  intro p e s m args below meth c s₁ B hml hv
  obtain ⟨rfl, hP, hK⟩ := hv
  have hx := B.exec
  have hb := B.bytes
  have hr := B.returns
  have hts := atoms_spec (ws := wc_X7_partAll) B.pre
  have hT : ∀ w ∈ wC, w.before ([.ref (u r0)] : List Value).toArray s = true := fun w h => hts w (List.mem_cons_of_mem _ h)
  have hown : s.vm.findClass RX7 = some m.cls := findClass_of_methodNamed B.named
  have hlocks := B.notSynchronized
  have hU : uw_inj (cX vl) u (tw_A (cX vl) u) := ⟨hU0, fun h hh => ⟨h, hh, rfl⟩⟩
  have hM : uw_M D vwCl (cX vl) q (tw_A (cX vl) u) s.heap u z s.heap [] := ⟨hP, va_S.rf⟩
  have hl := lv_entry ([.ref (u r0)]) (n := 2) (Nat.le_of_ble_eq_true rfl)
  rw [lg_entry_eq]
  generalize (lg_sl ([.ref (u r0)]) ++ List.replicate (2 - (lg_sl ([.ref (u r0)])).length) Slot.unset).toArray = ls at hl ⊢
  have hl : lv_has ls 2 [(0, .ref (u r0))] := hl
  refine ow_named (fun QQ hQQ => ?_)
  generalize ([.ref (u r0)] : List Value).toArray = args at hts hT hQQ ⊢
  have key : ∀ k : Nat, (∀ (x1 : Int32) (r0 : Nat) (z : ow_MS) (H : Heap) (locs : List Loc) (ls : Array Slot), cw_X7 r0 → uw_M D vwCl (cX vl) q (tw_A (cX vl) u) s.heap u z H locs → lv_has ls 2 [(0, .ref (u r0))] → c_X7_partAll vl K k 0 x1 r0 z = some z1 → W p l e ({ frames := 4, cells := 0, slots := 0, locals := 95 } : Room) s m args below meth c H locs 0 0 QQ (F0 m 0 ls [])) ∧ (∀ (x1 : Int32) (r0 : Nat) (z : ow_MS) (H : Heap) (locs : List Loc) (ls : Array Slot), cw_X7 r0 → uw_M D vwCl (cX vl) q (tw_A (cX vl) u) s.heap u z H locs → lv_has ls 2 [(0, .ref (u r0)), (1, .int x1)] → c_X7_partAll vl K k 1 x1 r0 z = some z1 → W p l e ({ frames := 4, cells := 0, slots := 0, locals := 95 } : Room) s m args below meth c H locs 0 0 QQ (F0 m 2 ls [])) := by
    intro k
    induction k with
    | zero => exact ⟨fun _ _ _ _ _ _ _ _ _ hq => cw_no hq, fun _ _ _ _ _ _ _ _ _ hq => cw_no hq⟩
    | succ k ih =>
      obtain ⟨ih_0, ih_1⟩ := ih
      refine ⟨?_, ?_⟩
      · intro x1 r0 z H locs ls hr0 hM hl hq
        have hq : cm_X7_partAll_0 vl K (c_X7_partAll vl K k) x1 r0 z = some z1 := hq
        unfold cm_X7_partAll_0 at hq
        refine lv_iconst (v := 0) hx hb dcX7_partAll_0 (by decide) ?_
        refine lv_istore_n (lv' := [(1, .int 0), (0, .ref (u r0))]) hx hb dcX7_partAll_1 rfl hl (by decide) rfl (fun ls hl => ?_)
        exact ih_1 0 r0 z H locs ls hr0 hM (lv_sub hl [1, 0] rfl) hq
      · intro x1 r0 z H locs ls hr0 hM hl hq
        have hq : cm_X7_partAll_1 vl K (c_X7_partAll vl K k) x1 r0 z = some z1 := hq
        unfold cm_X7_partAll_1 at hq
        refine lv_iload_n hx hb dcX7_partAll_2 rfl (lv_at hl 1 rfl) ?_
        refine lv_bipush (v := 12) hx hb dcX7_partAll_3 (by decide) ?_
        refine lv_icmp_ge (tgt := 22) hx hb dcX7_partAll_5 (by decide) (fun hc => ?_) (fun hc => ?_)
        · have hq := tw_it hq hc
          exact cw_vret hx hb hr hlocks hM hq hQQ dcX7_partAll_22
        · have hq := tw_if hq hc
          refine lv_aload_n hx hb dcX7_partAll_8 rfl (lv_at hl 0 rfl) ?_
          obtain ⟨v2, z1, hcq, hq⟩ := tw_cl1 hq
          refine uw_cali hU hM (va_runV (As := []) (rest := []) ⟨hx, hb, hml, hown, hts⟩ (kc_X7_partOnce l D q vl u hU.1 K r0 hr0 z z1 v2 hcq) (cwV 0 hts (tw_gV wC_good xq_580 xq_581 xq_582 xq_54 xq_583) rfl rfl rfl cdd_X7_partOnce ⟨(Nat.le_of_ble_eq_true rfl), (Nat.le_of_ble_eq_true rfl)⟩) (cw_preV hK hM (co_X7 hr0) rfl) rfl rfl hl.1 rfl (lv_room (Nat.le_of_ble_eq_true rfl)) dcX7_partAll_9 ⟨(Nat.le_of_ble_eq_true rfl), (Nat.le_of_ble_eq_true rfl)⟩) (fun H locs hM => ?_)
          refine lv_if_ne (tgt := 16) hx hb dcX7_partAll_12 (by decide) (fun hc => ?_) (fun hc => ?_)
          · have hq := tw_if hq hc
            refine lv_iinc (v := (x1 + 1)) (lv' := [(1, .int (x1 + 1)), (0, .ref (u r0))]) hx hb dcX7_partAll_16 hl (k := 1) rfl rfl (by decide) rfl (fun ls hl => ?_)
            refine lv_goto (tgt := 2) hx hb dcX7_partAll_19 (by decide) ?_
            exact ih_1 (x1 + 1) r0 z1 H locs ls hr0 hM (lv_sub hl [1, 0] rfl) hq
          · have hq := tw_it hq hc
            exact cw_vret hx hb hr hlocks hM hq hQQ dcX7_partAll_15
  exact (key K).1 0 r0 z s.heap [] ls hr0 hM (lv_sub hl [0] rfl) hq
theorem dcX7_extend_0 : decode cX7_extend 0 = .ok (.aload_n 2, 1) := by decide +kernel
theorem dcX7_extend_1 : decode cX7_extend 1 = .ok (.iload_n 3, 1) := by decide +kernel
theorem dcX7_extend_2 : decode cX7_extend 2 = .ok (.iaload, 1) := by decide +kernel
theorem dcX7_extend_3 : decode cX7_extend 3 = .ok (.iconst (-1), 1) := by decide +kernel
theorem dcX7_extend_4 : decode cX7_extend 4 = .ok (.if_icmp .ne 11, 3) := by decide +kernel
theorem dcX7_extend_7 : decode cX7_extend 7 = .ok (.aload_n 1, 1) := by decide +kernel
theorem dcX7_extend_8 : decode cX7_extend 8 = .ok (.iload_n 3, 1) := by decide +kernel
theorem dcX7_extend_9 : decode cX7_extend 9 = .ok (.iload 4, 2) := by decide +kernel
theorem dcX7_extend_11 : decode cX7_extend 11 = .ok (.iastore, 1) := by decide +kernel
theorem dcX7_extend_12 : decode cX7_extend 12 = .ok (.goto 12, 3) := by decide +kernel
theorem dcX7_extend_15 : decode cX7_extend 15 = .ok (.aload_n 0, 1) := by decide +kernel
theorem dcX7_extend_16 : decode cX7_extend 16 = .ok (.aload_n 2, 1) := by decide +kernel
theorem dcX7_extend_17 : decode cX7_extend 17 = .ok (.iload_n 3, 1) := by decide +kernel
theorem dcX7_extend_18 : decode cX7_extend 18 = .ok (.iaload, 1) := by decide +kernel
theorem dcX7_extend_19 : decode cX7_extend 19 = .ok (.iload 4, 2) := by decide +kernel
theorem dcX7_extend_21 : decode cX7_extend 21 = .ok (.invokevirtual 54, 3) := by decide +kernel
theorem dcX7_extend_24 : decode cX7_extend 24 = .ok (.return_, 1) := by decide +kernel
def cm_X7_extend_0 (vl : Nat → Nat) (K : Nat) (x3 : Int32) (x4 : Int32) (r0 : Nat) (r1 : Nat) (r2 : Nat) (z : ow_MS) : Option ow_MS :=
 crI (cX vl) z r2 x3 fun v1 => (if v1 = (-1) then ctI (cX vl) z r1 x3 x4 fun z4 => some z4
 else crI (cX vl) z r2 x3 fun v2 => cs0 (ce_X7_link vl K r0 v2 x4 z) fun z3 => some z3)
def ce_X7_extend (vl : Nat → Nat) (K : Nat) (r0 : Nat) (r1 : Nat) (r2 : Nat) (x3 : Int32) (x4 : Int32) (z : ow_MS) : Option ow_MS := cm_X7_extend_0 vl K x3 x4 r0 r1 r2 z
abbrev wc_X7_extend : List Cond := .code yX7_extend cX7_extend 5 none :: wC
theorem cdd_X7_extend : yX7_extend.cls = RX7 ∧ yX7_extend.cls ≠ "java/lang/invoke/MethodHandle" ∧ yX7_extend.cls ≠ "java/lang/invoke/VarHandle" ∧ (parseMethodDescriptor yX7_extend.desc).map (fun d => d.parameters.length) = some 4 := by decide +kernel
set_option maxHeartbeats 4000000 in
set_option maxRecDepth 100000 in
theorem kc_X7_extend (l : Launch) (D : va_G) (q : Nat → ClassId) (vl u : Nat → Nat) (hU0 : tw_inj (cX vl) u) (K : Nat) (r0 : Nat) (r1 : Nat) (r2 : Nat) (x3 : Int32) (x4 : Int32) (hr0 : cw_X7 r0) (hr1 : tw_in (cX vl) r1 0) (hr2 : tw_in (cX vl) r2 0) (z z1 : ow_MS) (hq : ce_X7_extend vl K r0 r1 r2 x3 x4 z = some z1) : Met l yX7_extend wc_X7_extend ({ frames := 1, cells := 0, slots := 0, locals := 22 } : Room) (va_Pc [.ref (u r0), .ref (u r1), .ref (u r2), .int x3, .int x4] (cw_pre D q vl u z)) (va_Qv (fun (_ : Unit) => True) (fun _ t => va_P D vwCl (uw (cX vl) q u z1) t.heap) (tw_A (cX vl) u)) 0 0 (tw_A (cX vl) u) := by
  refine Met.ofW (cc := cX7_extend) (maxL := 5) (ret := none) (by decide) rfl ?_
  intro p e s m args below meth c s₁ B hml hv
  obtain ⟨rfl, hP, hK⟩ := hv
  have hx := B.exec
  have hb := B.bytes
  have hr := B.returns
  have hts := atoms_spec (ws := wc_X7_extend) B.pre
  have hT : ∀ w ∈ wC, w.before ([.ref (u r0), .ref (u r1), .ref (u r2), .int x3, .int x4] : List Value).toArray s = true := fun w h => hts w (List.mem_cons_of_mem _ h)
  have hown : s.vm.findClass RX7 = some m.cls := findClass_of_methodNamed B.named
  have hlocks := B.notSynchronized
  have hU : uw_inj (cX vl) u (tw_A (cX vl) u) := ⟨hU0, fun h hh => ⟨h, hh, rfl⟩⟩
  have hM : uw_M D vwCl (cX vl) q (tw_A (cX vl) u) s.heap u z s.heap [] := ⟨hP, va_S.rf⟩
  have hl := lv_entry ([.ref (u r0), .ref (u r1), .ref (u r2), .int x3, .int x4]) (n := 5) (Nat.le_of_ble_eq_true rfl)
  rw [lg_entry_eq]
  generalize (lg_sl ([.ref (u r0), .ref (u r1), .ref (u r2), .int x3, .int x4]) ++ List.replicate (5 - (lg_sl ([.ref (u r0), .ref (u r1), .ref (u r2), .int x3, .int x4])).length) Slot.unset).toArray = ls at hl ⊢
  have hl : lv_has ls 5 [(0, .ref (u r0)), (1, .ref (u r1)), (2, .ref (u r2)), (3, .int x3), (4, .int x4)] := hl
  refine ow_named (fun QQ hQQ => ?_)
  generalize ([.ref (u r0), .ref (u r1), .ref (u r2), .int x3, .int x4] : List Value).toArray = args at hts hT hQQ ⊢
  have hq : cm_X7_extend_0 vl K x3 x4 r0 r1 r2 z = some z1 := hq
  unfold cm_X7_extend_0 at hq
  suffices key : ∀ (H : Heap) (locs : List Loc), uw_M D vwCl (cX vl) q (tw_A (cX vl) u) s.heap u z H locs → W p l e ({ frames := 1, cells := 0, slots := 0, locals := 22 } : Room) s m args below meth c H locs 0 0 QQ (F0 m 0 ls []) from key s.heap [] hM
  intro H locs hM
  refine lv_aload_n hx hb dcX7_extend_0 rfl (lv_at hl 2 rfl) ?_
  refine lv_iload_n hx hb dcX7_extend_1 rfl (lv_at hl 3 rfl) ?_
  refine uw_iald cX_ok hx hb hK hM hr2 hq dcX7_extend_2 (fun v1 hq => ?_)
  refine lv_iconst (v := (-1)) hx hb dcX7_extend_3 (by decide) ?_
  refine lv_icmp_ne (tgt := 15) hx hb dcX7_extend_4 (by decide) (fun hc => ?_) (fun hc => ?_)
  · have hq := tw_if hq hc
    refine lv_aload_n hx hb dcX7_extend_15 rfl (lv_at hl 0 rfl) ?_
    refine lv_aload_n hx hb dcX7_extend_16 rfl (lv_at hl 2 rfl) ?_
    refine lv_iload_n hx hb dcX7_extend_17 rfl (lv_at hl 3 rfl) ?_
    refine uw_iald cX_ok hx hb hK hM hr2 hq dcX7_extend_18 (fun v2 hq => ?_)
    refine lv_iload hx hb dcX7_extend_19 (lv_at hl 4 rfl) ?_
    obtain ⟨z3, hcq, hq⟩ := tw_cl0 hq
    refine uw_calv hU hM (va_runV (As := [.int v2, .int x4]) (rest := []) ⟨hx, hb, hml, hown, hts⟩ (kc_X7_link l D q vl u hU.1 K r0 v2 x4 hr0 z z3 hcq) (cwV 2 hts (tw_gV wC_good xq_160 xq_161 xq_162 xq_54 xq_163) rfl rfl rfl cdd_X7_link ⟨(Nat.le_of_ble_eq_true rfl), (Nat.le_of_ble_eq_true rfl)⟩) (cw_preV hK hM (co_X7 hr0) rfl) rfl rfl hl.1 rfl (lv_room (Nat.le_of_ble_eq_true rfl)) dcX7_extend_21 ⟨(Nat.le_of_ble_eq_true rfl), (Nat.le_of_ble_eq_true rfl)⟩) (fun H locs hM => ?_)
    exact cw_vret hx hb hr hlocks hM hq hQQ dcX7_extend_24
  · have hq := tw_it hq hc
    refine lv_aload_n hx hb dcX7_extend_7 rfl (lv_at hl 1 rfl) ?_
    refine lv_iload_n hx hb dcX7_extend_8 rfl (lv_at hl 3 rfl) ?_
    refine lv_iload hx hb dcX7_extend_9 (lv_at hl 4 rfl) ?_
    refine uw_iast cX_ok hU hx hb hK hM hr1 hq dcX7_extend_11 (fun z4 H locs hM hq => ?_)
    refine lv_goto (tgt := 24) hx hb dcX7_extend_12 (by decide) ?_
    exact cw_vret hx hb hr hlocks hM hq hQQ dcX7_extend_24
theorem dcX7_close_0 : decode cX7_close 0 = .ok (.aload_n 0, 1) := dw_at cX7_close_k0 (p := 0) rfl (by decide +kernel)
theorem dcX7_close_1 : decode cX7_close 1 = .ok (.getfield 21, 3) := dw_at cX7_close_k0 (p := 1) rfl (by decide +kernel)
theorem dcX7_close_4 : decode cX7_close 4 = .ok (.astore 5, 2) := dw_at cX7_close_k0 (p := 4) rfl (by decide +kernel)
theorem dcX7_close_6 : decode cX7_close 6 = .ok (.aload_n 0, 1) := dw_at cX7_close_k0 (p := 6) rfl (by decide +kernel)
theorem dcX7_close_7 : decode cX7_close 7 = .ok (.getfield 30, 3) := dw_at cX7_close_k0 (p := 7) rfl (by decide +kernel)
theorem dcX7_close_10 : decode cX7_close 10 = .ok (.astore 6, 2) := dw_at cX7_close_k0 (p := 10) rfl (by decide +kernel)
theorem dcX7_close_12 : decode cX7_close 12 = .ok (.aload 5, 2) := dw_at cX7_close_k0 (p := 12) rfl (by decide +kernel)
theorem dcX7_close_14 : decode cX7_close 14 = .ok (.iconst 0, 1) := dw_at cX7_close_k0 (p := 14) rfl (by decide +kernel)
theorem dcX7_close_15 : decode cX7_close 15 = .ok (.iload 4, 2) := dw_at cX7_close_k0 (p := 15) rfl (by decide +kernel)
theorem dcX7_close_17 : decode cX7_close 17 = .ok (.iconst (-1), 1) := dw_at cX7_close_k0 (p := 17) rfl (by decide +kernel)
theorem dcX7_close_18 : decode cX7_close 18 = .ok (.invokestatic 84, 3) := dw_at cX7_close_k0 (p := 18) rfl (by decide +kernel)
theorem dcX7_close_21 : decode cX7_close 21 = .ok (.aload 6, 2) := dw_at cX7_close_k0 (p := 21) rfl (by decide +kernel)
theorem dcX7_close_23 : decode cX7_close 23 = .ok (.iconst 0, 1) := dw_at cX7_close_k0 (p := 23) rfl (by decide +kernel)
theorem dcX7_close_24 : decode cX7_close 24 = .ok (.iload 4, 2) := dw_at cX7_close_k1 (p := 0) rfl (by decide +kernel)
theorem dcX7_close_26 : decode cX7_close 26 = .ok (.iconst (-1), 1) := dw_at cX7_close_k1 (p := 2) rfl (by decide +kernel)
theorem dcX7_close_27 : decode cX7_close 27 = .ok (.invokestatic 84, 3) := dw_at cX7_close_k1 (p := 3) rfl (by decide +kernel)
theorem dcX7_close_30 : decode cX7_close 30 = .ok (.aload_n 0, 1) := dw_at cX7_close_k1 (p := 6) rfl (by decide +kernel)
theorem dcX7_close_31 : decode cX7_close 31 = .ok (.invokevirtual 103, 3) := dw_at cX7_close_k1 (p := 7) rfl (by decide +kernel)
theorem dcX7_close_34 : decode cX7_close 34 = .ok (.iconst 0, 1) := dw_at cX7_close_k1 (p := 10) rfl (by decide +kernel)
theorem dcX7_close_35 : decode cX7_close 35 = .ok (.istore 7, 2) := dw_at cX7_close_k1 (p := 11) rfl (by decide +kernel)
theorem dcX7_close_37 : decode cX7_close 37 = .ok (.iload 7, 2) := dw_at cX7_close_k1 (p := 13) rfl (by decide +kernel)
theorem dcX7_close_39 : decode cX7_close 39 = .ok (.iload_n 3, 1) := dw_at cX7_close_k1 (p := 15) rfl (by decide +kernel)
theorem dcX7_close_40 : decode cX7_close 40 = .ok (.if_icmp .ge 128, 3) := dw_at cX7_close_k1 (p := 16) rfl (by decide +kernel)
theorem dcX7_close_43 : decode cX7_close 43 = .ok (.iload 7, 2) := dw_at cX7_close_k1 (p := 19) rfl (by decide +kernel)
theorem dcX7_close_45 : decode cX7_close 45 = .ok (.bipush 12, 2) := dw_at cX7_close_k1 (p := 21) rfl (by decide +kernel)
theorem dcX7_close_47 : decode cX7_close 47 = .ok (.if_icmp .ge 121, 3) := dw_at cX7_close_k1 (p := 23) rfl (by decide +kernel)
theorem dcX7_close_50 : decode cX7_close 50 = .ok (.aload_n 1, 1) := dw_at cX7_close_k2 (p := 0) rfl (by decide +kernel)
theorem dcX7_close_51 : decode cX7_close 51 = .ok (.iload_n 2, 1) := dw_at cX7_close_k2 (p := 1) rfl (by decide +kernel)
theorem dcX7_close_52 : decode cX7_close 52 = .ok (.iload 7, 2) := dw_at cX7_close_k2 (p := 2) rfl (by decide +kernel)
theorem dcX7_close_54 : decode cX7_close 54 = .ok (.iadd, 1) := dw_at cX7_close_k2 (p := 4) rfl (by decide +kernel)
theorem dcX7_close_55 : decode cX7_close 55 = .ok (.baload, 1) := dw_at cX7_close_k2 (p := 5) rfl (by decide +kernel)
theorem dcX7_close_56 : decode cX7_close 56 = .ok (.istore 8, 2) := dw_at cX7_close_k2 (p := 6) rfl (by decide +kernel)
theorem dcX7_close_58 : decode cX7_close 58 = .ok (.iload 8, 2) := dw_at cX7_close_k2 (p := 8) rfl (by decide +kernel)
theorem dcX7_close_60 : decode cX7_close 60 = .ok (.invokestatic 106, 3) := dw_at cX7_close_k2 (p := 10) rfl (by decide +kernel)
theorem dcX7_close_63 : decode cX7_close 63 = .ok (.iconst 1, 1) := dw_at cX7_close_k2 (p := 13) rfl (by decide +kernel)
theorem dcX7_close_64 : decode cX7_close 64 = .ok (.isub, 1) := dw_at cX7_close_k2 (p := 14) rfl (by decide +kernel)
theorem dcX7_close_65 : decode cX7_close 65 = .ok (.istore 9, 2) := dw_at cX7_close_k2 (p := 15) rfl (by decide +kernel)
theorem dcX7_close_67 : decode cX7_close 67 = .ok (.iload 8, 2) := dw_at cX7_close_k2 (p := 17) rfl (by decide +kernel)
theorem dcX7_close_69 : decode cX7_close 69 = .ok (.ifCond .le 10, 3) := dw_at cX7_close_k2 (p := 19) rfl (by decide +kernel)
theorem dcX7_close_72 : decode cX7_close 72 = .ok (.iconst 2, 1) := dw_at cX7_close_k2 (p := 22) rfl (by decide +kernel)
theorem dcX7_close_73 : decode cX7_close 73 = .ok (.iload 7, 2) := dw_at cX7_close_k2 (p := 23) rfl (by decide +kernel)
theorem dcX7_close_75 : decode cX7_close 75 = .ok (.imul, 1) := dw_at cX7_close_k3 (p := 0) rfl (by decide +kernel)
theorem dcX7_close_76 : decode cX7_close 76 = .ok (.goto 9, 3) := dw_at cX7_close_k3 (p := 1) rfl (by decide +kernel)
theorem dcX7_close_79 : decode cX7_close 79 = .ok (.iconst 2, 1) := dw_at cX7_close_k3 (p := 4) rfl (by decide +kernel)
theorem dcX7_close_80 : decode cX7_close 80 = .ok (.iload 7, 2) := dw_at cX7_close_k3 (p := 5) rfl (by decide +kernel)
theorem dcX7_close_82 : decode cX7_close 82 = .ok (.imul, 1) := dw_at cX7_close_k3 (p := 7) rfl (by decide +kernel)
theorem dcX7_close_83 : decode cX7_close 83 = .ok (.iconst 1, 1) := dw_at cX7_close_k3 (p := 8) rfl (by decide +kernel)
theorem dcX7_close_84 : decode cX7_close 84 = .ok (.iadd, 1) := dw_at cX7_close_k3 (p := 9) rfl (by decide +kernel)
theorem dcX7_close_85 : decode cX7_close 85 = .ok (.istore 10, 2) := dw_at cX7_close_k3 (p := 10) rfl (by decide +kernel)
theorem dcX7_close_87 : decode cX7_close 87 = .ok (.iload 10, 2) := dw_at cX7_close_k3 (p := 12) rfl (by decide +kernel)
theorem dcX7_close_89 : decode cX7_close 89 = .ok (.iconst 1, 1) := dw_at cX7_close_k3 (p := 14) rfl (by decide +kernel)
theorem dcX7_close_90 : decode cX7_close 90 = .ok (.ixor, 1) := dw_at cX7_close_k3 (p := 15) rfl (by decide +kernel)
theorem dcX7_close_91 : decode cX7_close 91 = .ok (.istore 11, 2) := dw_at cX7_close_k3 (p := 16) rfl (by decide +kernel)
theorem dcX7_close_93 : decode cX7_close 93 = .ok (.aload_n 0, 1) := dw_at cX7_close_k3 (p := 18) rfl (by decide +kernel)
theorem dcX7_close_94 : decode cX7_close 94 = .ok (.aload 5, 2) := dw_at cX7_close_k3 (p := 19) rfl (by decide +kernel)
theorem dcX7_close_96 : decode cX7_close 96 = .ok (.aload 6, 2) := dw_at cX7_close_k3 (p := 21) rfl (by decide +kernel)
theorem dcX7_close_98 : decode cX7_close 98 = .ok (.iload 9, 2) := dw_at cX7_close_k3 (p := 23) rfl (by decide +kernel)
theorem dcX7_close_100 : decode cX7_close 100 = .ok (.iload 10, 2) := dw_at cX7_close_k4 (p := 0) rfl (by decide +kernel)
theorem dcX7_close_102 : decode cX7_close 102 = .ok (.invokevirtual 112, 3) := dw_at cX7_close_k4 (p := 2) rfl (by decide +kernel)
theorem dcX7_close_105 : decode cX7_close 105 = .ok (.aload_n 0, 1) := dw_at cX7_close_k4 (p := 5) rfl (by decide +kernel)
theorem dcX7_close_106 : decode cX7_close 106 = .ok (.aload 5, 2) := dw_at cX7_close_k4 (p := 6) rfl (by decide +kernel)
theorem dcX7_close_108 : decode cX7_close 108 = .ok (.aload 6, 2) := dw_at cX7_close_k4 (p := 8) rfl (by decide +kernel)
theorem dcX7_close_110 : decode cX7_close 110 = .ok (.iload 9, 2) := dw_at cX7_close_k4 (p := 10) rfl (by decide +kernel)
theorem dcX7_close_112 : decode cX7_close 112 = .ok (.iconst 1, 1) := dw_at cX7_close_k4 (p := 12) rfl (by decide +kernel)
theorem dcX7_close_113 : decode cX7_close 113 = .ok (.iadd, 1) := dw_at cX7_close_k4 (p := 13) rfl (by decide +kernel)
theorem dcX7_close_114 : decode cX7_close 114 = .ok (.iload 11, 2) := dw_at cX7_close_k4 (p := 14) rfl (by decide +kernel)
theorem dcX7_close_116 : decode cX7_close 116 = .ok (.invokevirtual 112, 3) := dw_at cX7_close_k4 (p := 16) rfl (by decide +kernel)
theorem dcX7_close_119 : decode cX7_close 119 = .ok (.aload 6, 2) := dw_at cX7_close_k4 (p := 19) rfl (by decide +kernel)
theorem dcX7_close_121 : decode cX7_close 121 = .ok (.iload 9, 2) := dw_at cX7_close_k4 (p := 21) rfl (by decide +kernel)
theorem dcX7_close_123 : decode cX7_close 123 = .ok (.iload 11, 2) := dw_at cX7_close_k4 (p := 23) rfl (by decide +kernel)
theorem dcX7_close_125 : decode cX7_close 125 = .ok (.iastore, 1) := dw_at cX7_close_k5 (p := 0) rfl (by decide +kernel)
theorem dcX7_close_126 : decode cX7_close 126 = .ok (.aload 6, 2) := dw_at cX7_close_k5 (p := 1) rfl (by decide +kernel)
theorem dcX7_close_128 : decode cX7_close 128 = .ok (.iload 9, 2) := dw_at cX7_close_k5 (p := 3) rfl (by decide +kernel)
theorem dcX7_close_130 : decode cX7_close 130 = .ok (.iconst 1, 1) := dw_at cX7_close_k5 (p := 5) rfl (by decide +kernel)
theorem dcX7_close_131 : decode cX7_close 131 = .ok (.iadd, 1) := dw_at cX7_close_k5 (p := 6) rfl (by decide +kernel)
theorem dcX7_close_132 : decode cX7_close 132 = .ok (.iload 10, 2) := dw_at cX7_close_k5 (p := 7) rfl (by decide +kernel)
theorem dcX7_close_134 : decode cX7_close 134 = .ok (.iastore, 1) := dw_at cX7_close_k5 (p := 9) rfl (by decide +kernel)
theorem dcX7_close_135 : decode cX7_close 135 = .ok (.aload_n 0, 1) := dw_at cX7_close_k5 (p := 10) rfl (by decide +kernel)
theorem dcX7_close_136 : decode cX7_close 136 = .ok (.getfield 18, 3) := dw_at cX7_close_k5 (p := 11) rfl (by decide +kernel)
theorem dcX7_close_139 : decode cX7_close 139 = .ok (.iload 7, 2) := dw_at cX7_close_k5 (p := 14) rfl (by decide +kernel)
theorem dcX7_close_141 : decode cX7_close 141 = .ok (.iload 8, 2) := dw_at cX7_close_k5 (p := 16) rfl (by decide +kernel)
theorem dcX7_close_143 : decode cX7_close 143 = .ok (.ifCond .le 7, 3) := dw_at cX7_close_k5 (p := 18) rfl (by decide +kernel)
theorem dcX7_close_146 : decode cX7_close 146 = .ok (.iconst 1, 1) := dw_at cX7_close_k5 (p := 21) rfl (by decide +kernel)
theorem dcX7_close_147 : decode cX7_close 147 = .ok (.goto 4, 3) := dw_at cX7_close_k5 (p := 22) rfl (by decide +kernel)
theorem dcX7_close_150 : decode cX7_close 150 = .ok (.iconst (-1), 1) := dw_at cX7_close_k6 (p := 0) rfl (by decide +kernel)
theorem dcX7_close_151 : decode cX7_close 151 = .ok (.iastore, 1) := dw_at cX7_close_k6 (p := 1) rfl (by decide +kernel)
theorem dcX7_close_152 : decode cX7_close 152 = .ok (.aload_n 0, 1) := dw_at cX7_close_k6 (p := 2) rfl (by decide +kernel)
theorem dcX7_close_153 : decode cX7_close 153 = .ok (.dup, 1) := dw_at cX7_close_k6 (p := 3) rfl (by decide +kernel)
theorem dcX7_close_154 : decode cX7_close 154 = .ok (.getfield 39, 3) := dw_at cX7_close_k6 (p := 4) rfl (by decide +kernel)
theorem dcX7_close_157 : decode cX7_close 157 = .ok (.iconst 1, 1) := dw_at cX7_close_k6 (p := 7) rfl (by decide +kernel)
theorem dcX7_close_158 : decode cX7_close 158 = .ok (.iadd, 1) := dw_at cX7_close_k6 (p := 8) rfl (by decide +kernel)
theorem dcX7_close_159 : decode cX7_close 159 = .ok (.putfield 39, 3) := dw_at cX7_close_k6 (p := 9) rfl (by decide +kernel)
theorem dcX7_close_162 : decode cX7_close 162 = .ok (.iinc 7 1, 3) := dw_at cX7_close_k6 (p := 12) rfl (by decide +kernel)
theorem dcX7_close_165 : decode cX7_close 165 = .ok (.goto (-128), 3) := dw_at cX7_close_k6 (p := 15) rfl (by decide +kernel)
theorem dcX7_close_168 : decode cX7_close 168 = .ok (.iconst 0, 1) := dw_at cX7_close_k6 (p := 18) rfl (by decide +kernel)
theorem dcX7_close_169 : decode cX7_close 169 = .ok (.istore 7, 2) := dw_at cX7_close_k6 (p := 19) rfl (by decide +kernel)
theorem dcX7_close_171 : decode cX7_close 171 = .ok (.iload 7, 2) := dw_at cX7_close_k6 (p := 21) rfl (by decide +kernel)
theorem dcX7_close_173 : decode cX7_close 173 = .ok (.iload 4, 2) := dw_at cX7_close_k6 (p := 23) rfl (by decide +kernel)
theorem dcX7_close_175 : decode cX7_close 175 = .ok (.if_icmp .ge 45, 3) := dw_at cX7_close_k7 (p := 0) rfl (by decide +kernel)
theorem dcX7_close_178 : decode cX7_close 178 = .ok (.aload 6, 2) := dw_at cX7_close_k7 (p := 3) rfl (by decide +kernel)
theorem dcX7_close_180 : decode cX7_close 180 = .ok (.iload 7, 2) := dw_at cX7_close_k7 (p := 5) rfl (by decide +kernel)
theorem dcX7_close_182 : decode cX7_close 182 = .ok (.iaload, 1) := dw_at cX7_close_k7 (p := 7) rfl (by decide +kernel)
theorem dcX7_close_183 : decode cX7_close 183 = .ok (.iconst (-1), 1) := dw_at cX7_close_k7 (p := 8) rfl (by decide +kernel)
theorem dcX7_close_184 : decode cX7_close 184 = .ok (.if_icmp .ne 16, 3) := dw_at cX7_close_k7 (p := 9) rfl (by decide +kernel)
theorem dcX7_close_187 : decode cX7_close 187 = .ok (.aload_n 0, 1) := dw_at cX7_close_k7 (p := 12) rfl (by decide +kernel)
theorem dcX7_close_188 : decode cX7_close 188 = .ok (.dup, 1) := dw_at cX7_close_k7 (p := 13) rfl (by decide +kernel)
theorem dcX7_close_189 : decode cX7_close 189 = .ok (.getfield 42, 3) := dw_at cX7_close_k7 (p := 14) rfl (by decide +kernel)
theorem dcX7_close_192 : decode cX7_close 192 = .ok (.iconst 1, 1) := dw_at cX7_close_k7 (p := 17) rfl (by decide +kernel)
theorem dcX7_close_193 : decode cX7_close 193 = .ok (.iadd, 1) := dw_at cX7_close_k7 (p := 18) rfl (by decide +kernel)
theorem dcX7_close_194 : decode cX7_close 194 = .ok (.putfield 42, 3) := dw_at cX7_close_k7 (p := 19) rfl (by decide +kernel)
theorem dcX7_close_197 : decode cX7_close 197 = .ok (.goto 17, 3) := dw_at cX7_close_k7 (p := 22) rfl (by decide +kernel)
theorem dcX7_close_200 : decode cX7_close 200 = .ok (.aload_n 0, 1) := dw_at cX7_close_k8 (p := 0) rfl (by decide +kernel)
theorem dcX7_close_201 : decode cX7_close 201 = .ok (.aload 6, 2) := dw_at cX7_close_k8 (p := 1) rfl (by decide +kernel)
theorem dcX7_close_203 : decode cX7_close 203 = .ok (.iload 7, 2) := dw_at cX7_close_k8 (p := 3) rfl (by decide +kernel)
theorem dcX7_close_205 : decode cX7_close 205 = .ok (.iaload, 1) := dw_at cX7_close_k8 (p := 5) rfl (by decide +kernel)
theorem dcX7_close_206 : decode cX7_close 206 = .ok (.aload 5, 2) := dw_at cX7_close_k8 (p := 6) rfl (by decide +kernel)
theorem dcX7_close_208 : decode cX7_close 208 = .ok (.iload 7, 2) := dw_at cX7_close_k8 (p := 8) rfl (by decide +kernel)
theorem dcX7_close_210 : decode cX7_close 210 = .ok (.iaload, 1) := dw_at cX7_close_k8 (p := 10) rfl (by decide +kernel)
theorem dcX7_close_211 : decode cX7_close 211 = .ok (.invokevirtual 54, 3) := dw_at cX7_close_k8 (p := 11) rfl (by decide +kernel)
theorem dcX7_close_214 : decode cX7_close 214 = .ok (.iinc 7 1, 3) := dw_at cX7_close_k8 (p := 14) rfl (by decide +kernel)
theorem dcX7_close_217 : decode cX7_close 217 = .ok (.goto (-46), 3) := dw_at cX7_close_k8 (p := 17) rfl (by decide +kernel)
theorem dcX7_close_220 : decode cX7_close 220 = .ok (.return_, 1) := dw_at cX7_close_k8 (p := 20) rfl (by decide +kernel)
def cm_X7_close_0 (vl : Nat → Nat) (K : Nat) (go : Nat → Int32 → Int32 → Int32 → Int32 → Int32 → Int32 → Int32 → Int32 → Nat → Nat → Nat → Nat → Int32 → Int32 → ow_MS → Option ow_MS) (x2 : Int32) (x3 : Int32) (x4 : Int32) (x7 : Int32) (x8 : Int32) (x9 : Int32) (x10 : Int32) (x11 : Int32) (r0 : Nat) (r1 : Nat) (r5 : Nat) (r6 : Nat) (t0 : Int32) (t1 : Int32) (z : ow_MS) : Option ow_MS :=
 cs0 (ce_J7_fill_fda19 vl K (r0 + 4) 0 x4 (-1) z) fun z1 => cs0 (ce_J7_fill_fda19 vl K (r0 + 7) 0 x4 (-1) z1) fun z2 => cs0 (ce_X7_empty vl K r0 z2) fun z3 => go 1 x2 x3 x4 0 0 0 0 0 r0 r1 (r0 + 4) (r0 + 7) 0 0 z3
def cm_X7_close_1 (vl : Nat → Nat) (K : Nat) (go : Nat → Int32 → Int32 → Int32 → Int32 → Int32 → Int32 → Int32 → Int32 → Nat → Nat → Nat → Nat → Int32 → Int32 → ow_MS → Option ow_MS) (x2 : Int32) (x3 : Int32) (x4 : Int32) (x7 : Int32) (x8 : Int32) (x9 : Int32) (x10 : Int32) (x11 : Int32) (r0 : Nat) (r1 : Nat) (r5 : Nat) (r6 : Nat) (t0 : Int32) (t1 : Int32) (z : ow_MS) : Option ow_MS :=
 (if x3 ≤ x7 then go 4 x2 x3 x4 x7 0 0 0 0 r0 r1 r5 r6 0 0 z
 else (if 12 ≤ x7 then go 4 x2 x3 x4 x7 0 0 0 0 r0 r1 r5 r6 0 0 z
 else crI (cX vl) z r1 (x2 + x7) fun v4 => (if v4 ≤ 0 then go 2 x2 x3 x4 x7 v4 ((if 0 ≤ v4 then v4 else 0 - v4) - 1) 0 0 r0 r1 r5 r6 ((2 * x7) + 1) 0 z
 else go 2 x2 x3 x4 x7 v4 ((if 0 ≤ v4 then v4 else 0 - v4) - 1) 0 0 r0 r1 r5 r6 (2 * x7) 0 z)))
def cm_X7_close_2 (vl : Nat → Nat) (K : Nat) (go : Nat → Int32 → Int32 → Int32 → Int32 → Int32 → Int32 → Int32 → Int32 → Nat → Nat → Nat → Nat → Int32 → Int32 → ow_MS → Option ow_MS) (x2 : Int32) (x3 : Int32) (x4 : Int32) (x7 : Int32) (x8 : Int32) (x9 : Int32) (x10 : Int32) (x11 : Int32) (r0 : Nat) (r1 : Nat) (r5 : Nat) (r6 : Nat) (t0 : Int32) (t1 : Int32) (z : ow_MS) : Option ow_MS :=
 cs0 (ce_X7_extend vl K r0 r5 r6 x9 t0 z) fun z5 => cs0 (ce_X7_extend vl K r0 r5 r6 (x9 + 1) (t0 ^^^ 1) z5) fun z6 => ctI (cX vl) z6 r6 x9 (t0 ^^^ 1) fun z7 => ctI (cX vl) z7 r6 (x9 + 1) t0 fun z8 => (if x8 ≤ 0 then go 3 x2 x3 x4 x7 x8 x9 t0 (t0 ^^^ 1) r0 r1 r5 r6 (-1) x7 z8
 else go 3 x2 x3 x4 x7 x8 x9 t0 (t0 ^^^ 1) r0 r1 r5 r6 1 x7 z8)
def cm_X7_close_3 (vl : Nat → Nat) (K : Nat) (go : Nat → Int32 → Int32 → Int32 → Int32 → Int32 → Int32 → Int32 → Int32 → Nat → Nat → Nat → Nat → Int32 → Int32 → ow_MS → Option ow_MS) (x2 : Int32) (x3 : Int32) (x4 : Int32) (x7 : Int32) (x8 : Int32) (x9 : Int32) (x10 : Int32) (x11 : Int32) (r0 : Nat) (r1 : Nat) (r5 : Nat) (r6 : Nat) (t0 : Int32) (t1 : Int32) (z : ow_MS) : Option ow_MS :=
 ctI (cX vl) z (r0 + 3) t1 t0 fun z9 => rdF z9 (r0 + 8) fun v10 => wrF z9 (r0 + 8) (v10 + 1) fun z11 => go 1 x2 x3 x4 (x7 + 1) 0 0 0 0 r0 r1 r5 r6 0 0 z11
def cm_X7_close_4 (vl : Nat → Nat) (K : Nat) (go : Nat → Int32 → Int32 → Int32 → Int32 → Int32 → Int32 → Int32 → Int32 → Nat → Nat → Nat → Nat → Int32 → Int32 → ow_MS → Option ow_MS) (x2 : Int32) (x3 : Int32) (x4 : Int32) (x7 : Int32) (x8 : Int32) (x9 : Int32) (x10 : Int32) (x11 : Int32) (r0 : Nat) (r1 : Nat) (r5 : Nat) (r6 : Nat) (t0 : Int32) (t1 : Int32) (z : ow_MS) : Option ow_MS :=
 go 5 x2 x3 x4 0 0 0 0 0 r0 r1 r5 r6 0 0 z
def cm_X7_close_5 (vl : Nat → Nat) (K : Nat) (go : Nat → Int32 → Int32 → Int32 → Int32 → Int32 → Int32 → Int32 → Int32 → Nat → Nat → Nat → Nat → Int32 → Int32 → ow_MS → Option ow_MS) (x2 : Int32) (x3 : Int32) (x4 : Int32) (x7 : Int32) (x8 : Int32) (x9 : Int32) (x10 : Int32) (x11 : Int32) (r0 : Nat) (r1 : Nat) (r5 : Nat) (r6 : Nat) (t0 : Int32) (t1 : Int32) (z : ow_MS) : Option ow_MS :=
 (if x4 ≤ x7 then some z
 else crI (cX vl) z r6 x7 fun v12 => (if v12 = (-1) then rdF z (r0 + 9) fun v16 => wrF z (r0 + 9) (v16 + 1) fun z17 => go 6 x2 x3 x4 x7 0 0 0 0 r0 r1 r5 r6 0 0 z17
 else crI (cX vl) z r6 x7 fun v13 => crI (cX vl) z r5 x7 fun v14 => cs0 (ce_X7_link vl K r0 v13 v14 z) fun z15 => go 6 x2 x3 x4 x7 0 0 0 0 r0 r1 r5 r6 0 0 z15))
def cm_X7_close_6 (vl : Nat → Nat) (K : Nat) (go : Nat → Int32 → Int32 → Int32 → Int32 → Int32 → Int32 → Int32 → Int32 → Nat → Nat → Nat → Nat → Int32 → Int32 → ow_MS → Option ow_MS) (x2 : Int32) (x3 : Int32) (x4 : Int32) (x7 : Int32) (x8 : Int32) (x9 : Int32) (x10 : Int32) (x11 : Int32) (r0 : Nat) (r1 : Nat) (r5 : Nat) (r6 : Nat) (t0 : Int32) (t1 : Int32) (z : ow_MS) : Option ow_MS :=
 go 5 x2 x3 x4 (x7 + 1) 0 0 0 0 r0 r1 r5 r6 0 0 z
def cb_X7_close (vl : Nat → Nat) (K : Nat) (go : Nat → Int32 → Int32 → Int32 → Int32 → Int32 → Int32 → Int32 → Int32 → Nat → Nat → Nat → Nat → Int32 → Int32 → ow_MS → Option ow_MS) (L : Nat) (x2 : Int32) (x3 : Int32) (x4 : Int32) (x7 : Int32) (x8 : Int32) (x9 : Int32) (x10 : Int32) (x11 : Int32) (r0 : Nat) (r1 : Nat) (r5 : Nat) (r6 : Nat) (t0 : Int32) (t1 : Int32) (z : ow_MS) : Option ow_MS := match L with
  | 0 => cm_X7_close_0 vl K go x2 x3 x4 x7 x8 x9 x10 x11 r0 r1 r5 r6 t0 t1 z
  | 1 => cm_X7_close_1 vl K go x2 x3 x4 x7 x8 x9 x10 x11 r0 r1 r5 r6 t0 t1 z
  | 2 => cm_X7_close_2 vl K go x2 x3 x4 x7 x8 x9 x10 x11 r0 r1 r5 r6 t0 t1 z
  | 3 => cm_X7_close_3 vl K go x2 x3 x4 x7 x8 x9 x10 x11 r0 r1 r5 r6 t0 t1 z
  | 4 => cm_X7_close_4 vl K go x2 x3 x4 x7 x8 x9 x10 x11 r0 r1 r5 r6 t0 t1 z
  | 5 => cm_X7_close_5 vl K go x2 x3 x4 x7 x8 x9 x10 x11 r0 r1 r5 r6 t0 t1 z
  | 6 => cm_X7_close_6 vl K go x2 x3 x4 x7 x8 x9 x10 x11 r0 r1 r5 r6 t0 t1 z
  | _ => none
def c_X7_close (vl : Nat → Nat) (K : Nat) : Nat → Nat → Int32 → Int32 → Int32 → Int32 → Int32 → Int32 → Int32 → Int32 → Nat → Nat → Nat → Nat → Int32 → Int32 → ow_MS → Option ow_MS
  | 0 => fun _ _ _ _ _ _ _ _ _ _ _ _ _ _ _ _ => none
  | k + 1 => cb_X7_close vl K (c_X7_close vl K k)
def ce_X7_close (vl : Nat → Nat) (K : Nat) (r0 : Nat) (r1 : Nat) (x2 : Int32) (x3 : Int32) (x4 : Int32) (z : ow_MS) : Option ow_MS := c_X7_close vl K K 0 x2 x3 x4 0 0 0 0 0 r0 r1 0 0 0 0 z
abbrev wc_X7_close : List Cond := .code yX7_close cX7_close 12 none :: wC
theorem cdd_X7_close : yX7_close.cls = RX7 ∧ yX7_close.cls ≠ "java/lang/invoke/MethodHandle" ∧ yX7_close.cls ≠ "java/lang/invoke/VarHandle" ∧ (parseMethodDescriptor yX7_close.desc).map (fun d => d.parameters.length) = some 4 := by decide +kernel
set_option maxHeartbeats 4000000 in
set_option maxRecDepth 100000 in
theorem kc_X7_close (l : Launch) (D : va_G) (q : Nat → ClassId) (vl u : Nat → Nat) (hU0 : tw_inj (cX vl) u) (K : Nat) (r0 : Nat) (r1 : Nat) (x2 : Int32) (x3 : Int32) (x4 : Int32) (hr0 : cw_X7 r0) (hr1 : tw_in (cX vl) r1 1) (z z1 : ow_MS) (hq : ce_X7_close vl K r0 r1 x2 x3 x4 z = some z1) : Met l yX7_close wc_X7_close ({ frames := 2, cells := 0, slots := 0, locals := 46 } : Room) (va_Pc [.ref (u r0), .ref (u r1), .int x2, .int x3, .int x4] (cw_pre D q vl u z)) (va_Qv (fun (_ : Unit) => True) (fun _ t => va_P D vwCl (uw (cX vl) q u z1) t.heap) (tw_A (cX vl) u)) 0 0 (tw_A (cX vl) u) := by
  refine Met.ofW (cc := cX7_close) (maxL := 12) (ret := none) (by decide) rfl ?_
  intro p e s m args below meth c s₁ B hml hv
  obtain ⟨rfl, hP, hK⟩ := hv
  have hx := B.exec
  have hb := B.bytes
  have hr := B.returns
  have hts := atoms_spec (ws := wc_X7_close) B.pre
  have hT : ∀ w ∈ wC, w.before ([.ref (u r0), .ref (u r1), .int x2, .int x3, .int x4] : List Value).toArray s = true := fun w h => hts w (List.mem_cons_of_mem _ h)
  have hown : s.vm.findClass RX7 = some m.cls := findClass_of_methodNamed B.named
  have hlocks := B.notSynchronized
  have hU : uw_inj (cX vl) u (tw_A (cX vl) u) := ⟨hU0, fun h hh => ⟨h, hh, rfl⟩⟩
  have hM : uw_M D vwCl (cX vl) q (tw_A (cX vl) u) s.heap u z s.heap [] := ⟨hP, va_S.rf⟩
  have hl := lv_entry ([.ref (u r0), .ref (u r1), .int x2, .int x3, .int x4]) (n := 12) (Nat.le_of_ble_eq_true rfl)
  rw [lg_entry_eq]
  generalize (lg_sl ([.ref (u r0), .ref (u r1), .int x2, .int x3, .int x4]) ++ List.replicate (12 - (lg_sl ([.ref (u r0), .ref (u r1), .int x2, .int x3, .int x4])).length) Slot.unset).toArray = ls at hl ⊢
  have hl : lv_has ls 12 [(0, .ref (u r0)), (1, .ref (u r1)), (2, .int x2), (3, .int x3), (4, .int x4)] := hl
  refine ow_named (fun QQ hQQ => ?_)
  generalize ([.ref (u r0), .ref (u r1), .int x2, .int x3, .int x4] : List Value).toArray = args at hts hT hQQ ⊢
  have key : ∀ k : Nat, (∀ (x2 : Int32) (x3 : Int32) (x4 : Int32) (x7 : Int32) (x8 : Int32) (x9 : Int32) (x10 : Int32) (x11 : Int32) (r0 : Nat) (r1 : Nat) (r5 : Nat) (r6 : Nat) (t0 : Int32) (t1 : Int32) (z : ow_MS) (H : Heap) (locs : List Loc) (ls : Array Slot), cw_X7 r0 → tw_in (cX vl) r1 1 → uw_M D vwCl (cX vl) q (tw_A (cX vl) u) s.heap u z H locs → lv_has ls 12 [(0, .ref (u r0)), (1, .ref (u r1)), (2, .int x2), (3, .int x3), (4, .int x4)] → c_X7_close vl K k 0 x2 x3 x4 x7 x8 x9 x10 x11 r0 r1 r5 r6 t0 t1 z = some z1 → W p l e ({ frames := 2, cells := 0, slots := 0, locals := 46 } : Room) s m args below meth c H locs 0 0 QQ (F0 m 0 ls [])) ∧ (∀ (x2 : Int32) (x3 : Int32) (x4 : Int32) (x7 : Int32) (x8 : Int32) (x9 : Int32) (x10 : Int32) (x11 : Int32) (r0 : Nat) (r1 : Nat) (r5 : Nat) (r6 : Nat) (t0 : Int32) (t1 : Int32) (z : ow_MS) (H : Heap) (locs : List Loc) (ls : Array Slot), cw_X7 r0 → tw_in (cX vl) r1 1 → tw_in (cX vl) r5 0 → tw_in (cX vl) r6 0 → uw_M D vwCl (cX vl) q (tw_A (cX vl) u) s.heap u z H locs → lv_has ls 12 [(0, .ref (u r0)), (1, .ref (u r1)), (2, .int x2), (3, .int x3), (4, .int x4), (5, .ref (u r5)), (6, .ref (u r6)), (7, .int x7)] → c_X7_close vl K k 1 x2 x3 x4 x7 x8 x9 x10 x11 r0 r1 r5 r6 t0 t1 z = some z1 → W p l e ({ frames := 2, cells := 0, slots := 0, locals := 46 } : Room) s m args below meth c H locs 0 0 QQ (F0 m 37 ls [])) ∧ (∀ (x2 : Int32) (x3 : Int32) (x4 : Int32) (x7 : Int32) (x8 : Int32) (x9 : Int32) (x10 : Int32) (x11 : Int32) (r0 : Nat) (r1 : Nat) (r5 : Nat) (r6 : Nat) (t0 : Int32) (t1 : Int32) (z : ow_MS) (H : Heap) (locs : List Loc) (ls : Array Slot), cw_X7 r0 → tw_in (cX vl) r1 1 → tw_in (cX vl) r5 0 → tw_in (cX vl) r6 0 → uw_M D vwCl (cX vl) q (tw_A (cX vl) u) s.heap u z H locs → lv_has ls 12 [(0, .ref (u r0)), (1, .ref (u r1)), (2, .int x2), (3, .int x3), (4, .int x4), (5, .ref (u r5)), (6, .ref (u r6)), (7, .int x7), (8, .int x8), (9, .int x9)] → c_X7_close vl K k 2 x2 x3 x4 x7 x8 x9 x10 x11 r0 r1 r5 r6 t0 t1 z = some z1 → W p l e ({ frames := 2, cells := 0, slots := 0, locals := 46 } : Room) s m args below meth c H locs 0 0 QQ (F0 m 85 ls [.int t0])) ∧ (∀ (x2 : Int32) (x3 : Int32) (x4 : Int32) (x7 : Int32) (x8 : Int32) (x9 : Int32) (x10 : Int32) (x11 : Int32) (r0 : Nat) (r1 : Nat) (r5 : Nat) (r6 : Nat) (t0 : Int32) (t1 : Int32) (z : ow_MS) (H : Heap) (locs : List Loc) (ls : Array Slot), cw_X7 r0 → tw_in (cX vl) r1 1 → tw_in (cX vl) r5 0 → tw_in (cX vl) r6 0 → uw_M D vwCl (cX vl) q (tw_A (cX vl) u) s.heap u z H locs → lv_has ls 12 [(0, .ref (u r0)), (1, .ref (u r1)), (2, .int x2), (3, .int x3), (4, .int x4), (5, .ref (u r5)), (6, .ref (u r6)), (7, .int x7), (8, .int x8), (9, .int x9), (10, .int x10), (11, .int x11)] → c_X7_close vl K k 3 x2 x3 x4 x7 x8 x9 x10 x11 r0 r1 r5 r6 t0 t1 z = some z1 → W p l e ({ frames := 2, cells := 0, slots := 0, locals := 46 } : Room) s m args below meth c H locs 0 0 QQ (F0 m 151 ls [.int t0, .int t1, .ref (u (r0 + 3))])) ∧ (∀ (x2 : Int32) (x3 : Int32) (x4 : Int32) (x7 : Int32) (x8 : Int32) (x9 : Int32) (x10 : Int32) (x11 : Int32) (r0 : Nat) (r1 : Nat) (r5 : Nat) (r6 : Nat) (t0 : Int32) (t1 : Int32) (z : ow_MS) (H : Heap) (locs : List Loc) (ls : Array Slot), cw_X7 r0 → tw_in (cX vl) r1 1 → tw_in (cX vl) r5 0 → tw_in (cX vl) r6 0 → uw_M D vwCl (cX vl) q (tw_A (cX vl) u) s.heap u z H locs → lv_has ls 12 [(0, .ref (u r0)), (1, .ref (u r1)), (2, .int x2), (3, .int x3), (4, .int x4), (5, .ref (u r5)), (6, .ref (u r6)), (7, .int x7)] → c_X7_close vl K k 4 x2 x3 x4 x7 x8 x9 x10 x11 r0 r1 r5 r6 t0 t1 z = some z1 → W p l e ({ frames := 2, cells := 0, slots := 0, locals := 46 } : Room) s m args below meth c H locs 0 0 QQ (F0 m 168 ls [])) ∧ (∀ (x2 : Int32) (x3 : Int32) (x4 : Int32) (x7 : Int32) (x8 : Int32) (x9 : Int32) (x10 : Int32) (x11 : Int32) (r0 : Nat) (r1 : Nat) (r5 : Nat) (r6 : Nat) (t0 : Int32) (t1 : Int32) (z : ow_MS) (H : Heap) (locs : List Loc) (ls : Array Slot), cw_X7 r0 → tw_in (cX vl) r1 1 → tw_in (cX vl) r5 0 → tw_in (cX vl) r6 0 → uw_M D vwCl (cX vl) q (tw_A (cX vl) u) s.heap u z H locs → lv_has ls 12 [(0, .ref (u r0)), (1, .ref (u r1)), (2, .int x2), (3, .int x3), (4, .int x4), (5, .ref (u r5)), (6, .ref (u r6)), (7, .int x7)] → c_X7_close vl K k 5 x2 x3 x4 x7 x8 x9 x10 x11 r0 r1 r5 r6 t0 t1 z = some z1 → W p l e ({ frames := 2, cells := 0, slots := 0, locals := 46 } : Room) s m args below meth c H locs 0 0 QQ (F0 m 171 ls [])) ∧ (∀ (x2 : Int32) (x3 : Int32) (x4 : Int32) (x7 : Int32) (x8 : Int32) (x9 : Int32) (x10 : Int32) (x11 : Int32) (r0 : Nat) (r1 : Nat) (r5 : Nat) (r6 : Nat) (t0 : Int32) (t1 : Int32) (z : ow_MS) (H : Heap) (locs : List Loc) (ls : Array Slot), cw_X7 r0 → tw_in (cX vl) r1 1 → tw_in (cX vl) r5 0 → tw_in (cX vl) r6 0 → uw_M D vwCl (cX vl) q (tw_A (cX vl) u) s.heap u z H locs → lv_has ls 12 [(0, .ref (u r0)), (1, .ref (u r1)), (2, .int x2), (3, .int x3), (4, .int x4), (5, .ref (u r5)), (6, .ref (u r6)), (7, .int x7)] → c_X7_close vl K k 6 x2 x3 x4 x7 x8 x9 x10 x11 r0 r1 r5 r6 t0 t1 z = some z1 → W p l e ({ frames := 2, cells := 0, slots := 0, locals := 46 } : Room) s m args below meth c H locs 0 0 QQ (F0 m 214 ls [])) := by
    intro k
    induction k with
    | zero => exact ⟨fun _ _ _ _ _ _ _ _ _ _ _ _ _ _ _ _ _ _ _ _ _ _ hq => cw_no hq, fun _ _ _ _ _ _ _ _ _ _ _ _ _ _ _ _ _ _ _ _ _ _ _ _ hq => cw_no hq, fun _ _ _ _ _ _ _ _ _ _ _ _ _ _ _ _ _ _ _ _ _ _ _ _ hq => cw_no hq, fun _ _ _ _ _ _ _ _ _ _ _ _ _ _ _ _ _ _ _ _ _ _ _ _ hq => cw_no hq, fun _ _ _ _ _ _ _ _ _ _ _ _ _ _ _ _ _ _ _ _ _ _ _ _ hq => cw_no hq, fun _ _ _ _ _ _ _ _ _ _ _ _ _ _ _ _ _ _ _ _ _ _ _ _ hq => cw_no hq, fun _ _ _ _ _ _ _ _ _ _ _ _ _ _ _ _ _ _ _ _ _ _ _ _ hq => cw_no hq⟩
    | succ k ih =>
      obtain ⟨ih_0, ih_1, ih_2, ih_3, ih_4, ih_5, ih_6⟩ := ih
      refine ⟨?_, ?_, ?_, ?_, ?_, ?_, ?_⟩
      · intro x2 x3 x4 x7 x8 x9 x10 x11 r0 r1 r5 r6 t0 t1 z H locs ls hr0 hr1 hM hl hq
        have hq : cm_X7_close_0 vl K (c_X7_close vl K k) x2 x3 x4 x7 x8 x9 x10 x11 r0 r1 r5 r6 t0 t1 z = some z1 := hq
        unfold cm_X7_close_0 at hq
        refine lv_aload_n hx hb dcX7_close_0 rfl (lv_at hl 0 rfl) ?_
        refine vgX7_21 hx hb hT hown hK hM hr0 dcX7_close_1 ?_
        refine lv_astore (lv' := [(5, .ref (u (r0 + 4))), (0, .ref (u r0)), (1, .ref (u r1)), (2, .int x2), (3, .int x3), (4, .int x4)]) hx hb dcX7_close_4 hl (by decide) rfl (fun ls hl => ?_)
        refine lv_aload_n hx hb dcX7_close_6 rfl (lv_at hl 1 rfl) ?_
        refine vgX7_30 hx hb hT hown hK hM hr0 dcX7_close_7 ?_
        refine lv_astore (lv' := [(6, .ref (u (r0 + 7))), (5, .ref (u (r0 + 4))), (0, .ref (u r0)), (1, .ref (u r1)), (2, .int x2), (3, .int x3), (4, .int x4)]) hx hb dcX7_close_10 hl (by decide) rfl (fun ls hl => ?_)
        refine lv_aload hx hb dcX7_close_12 (lv_at hl 1 rfl) ?_
        refine lv_iconst (v := 0) hx hb dcX7_close_14 (by decide) ?_
        refine lv_iload hx hb dcX7_close_15 (lv_at hl 6 rfl) ?_
        refine lv_iconst (v := (-1)) hx hb dcX7_close_17 (by decide) ?_
        obtain ⟨z1, hcq, hq⟩ := tw_cl0 hq
        refine uw_calv hU hM (va_runS (As := [.ref (u (r0 + 4)), .int 0, .int x4, .int (-1)]) (rest := []) ⟨hx, hb, hml, hown, hts⟩ (kc_J7_fill_fda19 l D q vl u hU.1 K (r0 + 4) 0 x4 (-1) (cr_X7_3 hr0) z z1 hcq) (va_cwS 4 hts (tw_gS wC_good xq_61 xq_62 xq_9 xq_63) rfl rfl rfl cdd_J7_fill_fda19 ⟨(Nat.le_of_ble_eq_true rfl), (Nat.le_of_ble_eq_true rfl)⟩) (cw_preS hK hM) rfl rfl hl.1 rfl (lv_room (Nat.le_of_ble_eq_true rfl)) dcX7_close_18 ⟨(Nat.le_of_ble_eq_true rfl), (Nat.le_of_ble_eq_true rfl)⟩) (fun H locs hM => ?_)
        refine lv_aload hx hb dcX7_close_21 (lv_at hl 0 rfl) ?_
        refine lv_iconst (v := 0) hx hb dcX7_close_23 (by decide) ?_
        refine lv_iload hx hb dcX7_close_24 (lv_at hl 6 rfl) ?_
        refine lv_iconst (v := (-1)) hx hb dcX7_close_26 (by decide) ?_
        obtain ⟨z2, hcq, hq⟩ := tw_cl0 hq
        refine uw_calv hU hM (va_runS (As := [.ref (u (r0 + 7)), .int 0, .int x4, .int (-1)]) (rest := []) ⟨hx, hb, hml, hown, hts⟩ (kc_J7_fill_fda19 l D q vl u hU.1 K (r0 + 7) 0 x4 (-1) (cr_X7_6 hr0) z1 z2 hcq) (va_cwS 4 hts (tw_gS wC_good xq_61 xq_62 xq_9 xq_63) rfl rfl rfl cdd_J7_fill_fda19 ⟨(Nat.le_of_ble_eq_true rfl), (Nat.le_of_ble_eq_true rfl)⟩) (cw_preS hK hM) rfl rfl hl.1 rfl (lv_room (Nat.le_of_ble_eq_true rfl)) dcX7_close_27 ⟨(Nat.le_of_ble_eq_true rfl), (Nat.le_of_ble_eq_true rfl)⟩) (fun H locs hM => ?_)
        refine lv_aload_n hx hb dcX7_close_30 rfl (lv_at hl 2 rfl) ?_
        obtain ⟨z3, hcq, hq⟩ := tw_cl0 hq
        refine uw_calv hU hM (va_runV (As := []) (rest := []) ⟨hx, hb, hml, hown, hts⟩ (kc_X7_empty l D q vl u hU.1 K r0 hr0 z2 z3 hcq) (cwV 0 hts (tw_gV wC_good xq_590 xq_591 xq_592 xq_54 xq_567) rfl rfl rfl cdd_X7_empty ⟨(Nat.le_of_ble_eq_true rfl), (Nat.le_of_ble_eq_true rfl)⟩) (cw_preV hK hM (co_X7 hr0) rfl) rfl rfl hl.1 rfl (lv_room (Nat.le_of_ble_eq_true rfl)) dcX7_close_31 ⟨(Nat.le_of_ble_eq_true rfl), (Nat.le_of_ble_eq_true rfl)⟩) (fun H locs hM => ?_)
        refine lv_iconst (v := 0) hx hb dcX7_close_34 (by decide) ?_
        refine lv_istore (lv' := [(7, .int 0), (6, .ref (u (r0 + 7))), (5, .ref (u (r0 + 4))), (0, .ref (u r0)), (1, .ref (u r1)), (2, .int x2), (3, .int x3), (4, .int x4)]) hx hb dcX7_close_35 hl (by decide) rfl (fun ls hl => ?_)
        exact ih_1 x2 x3 x4 0 0 0 0 0 r0 r1 (r0 + 4) (r0 + 7) 0 0 z3 H locs ls hr0 hr1 (cr_X7_3 hr0) (cr_X7_6 hr0) hM (lv_sub hl [3, 4, 5, 6, 7, 2, 1, 0] rfl) hq
      · intro x2 x3 x4 x7 x8 x9 x10 x11 r0 r1 r5 r6 t0 t1 z H locs ls hr0 hr1 hr5 hr6 hM hl hq
        have hq : cm_X7_close_1 vl K (c_X7_close vl K k) x2 x3 x4 x7 x8 x9 x10 x11 r0 r1 r5 r6 t0 t1 z = some z1 := hq
        unfold cm_X7_close_1 at hq
        refine lv_iload hx hb dcX7_close_37 (lv_at hl 7 rfl) ?_
        refine lv_iload_n hx hb dcX7_close_39 rfl (lv_at hl 3 rfl) ?_
        refine lv_icmp_ge (tgt := 168) hx hb dcX7_close_40 (by decide) (fun hc => ?_) (fun hc => ?_)
        · have hq := tw_it hq hc
          exact ih_4 x2 x3 x4 x7 0 0 0 0 r0 r1 r5 r6 0 0 z H locs ls hr0 hr1 hr5 hr6 hM (lv_sub hl [0, 1, 2, 3, 4, 5, 6, 7] rfl) hq
        · have hq := tw_if hq hc
          refine lv_iload hx hb dcX7_close_43 (lv_at hl 7 rfl) ?_
          refine lv_bipush (v := 12) hx hb dcX7_close_45 (by decide) ?_
          refine lv_icmp_ge (tgt := 168) hx hb dcX7_close_47 (by decide) (fun hc => ?_) (fun hc => ?_)
          · have hq := tw_it hq hc
            exact ih_4 x2 x3 x4 x7 0 0 0 0 r0 r1 r5 r6 0 0 z H locs ls hr0 hr1 hr5 hr6 hM (lv_sub hl [0, 1, 2, 3, 4, 5, 6, 7] rfl) hq
          · have hq := tw_if hq hc
            refine lv_aload_n hx hb dcX7_close_50 rfl (lv_at hl 1 rfl) ?_
            refine lv_iload_n hx hb dcX7_close_51 rfl (lv_at hl 2 rfl) ?_
            refine lv_iload hx hb dcX7_close_52 (lv_at hl 7 rfl) ?_
            refine lv_iadd hx hb dcX7_close_54 ?_
            refine uw_bald cX_ok hx hb hK hM hr1 hq dcX7_close_55 (fun v4 hq => ?_)
            refine lv_istore (lv' := [(8, .int v4), (0, .ref (u r0)), (1, .ref (u r1)), (2, .int x2), (3, .int x3), (4, .int x4), (5, .ref (u r5)), (6, .ref (u r6)), (7, .int x7)]) hx hb dcX7_close_56 hl (by decide) rfl (fun ls hl => ?_)
            refine lv_iload hx hb dcX7_close_58 (lv_at hl 0 rfl) ?_
            refine va_mabs hx hb (by rw [hml]; exact hl.1.symm) hown (hT _ xq_589) (hT _ xq_432) (hT _ xq_18) (hT _ xq_433) (Nat.le_of_ble_eq_true rfl) (Nat.le_of_ble_eq_true rfl) (Nat.le_of_ble_eq_true rfl) (Nat.le_of_ble_eq_true rfl) dcX7_close_60 ?_
            refine lv_iconst (v := 1) hx hb dcX7_close_63 (by decide) ?_
            refine lv_isub hx hb dcX7_close_64 ?_
            refine lv_istore (lv' := [(9, .int ((if 0 ≤ v4 then v4 else 0 - v4) - 1)), (8, .int v4), (0, .ref (u r0)), (1, .ref (u r1)), (2, .int x2), (3, .int x3), (4, .int x4), (5, .ref (u r5)), (6, .ref (u r6)), (7, .int x7)]) hx hb dcX7_close_65 hl (by decide) rfl (fun ls hl => ?_)
            refine lv_iload hx hb dcX7_close_67 (lv_at hl 1 rfl) ?_
            refine lv_if_le (tgt := 79) hx hb dcX7_close_69 (by decide) (fun hc => ?_) (fun hc => ?_)
            · have hq := tw_it hq hc
              refine lv_iconst (v := 2) hx hb dcX7_close_79 (by decide) ?_
              refine lv_iload hx hb dcX7_close_80 (lv_at hl 9 rfl) ?_
              refine lv_imul hx hb dcX7_close_82 ?_
              refine lv_iconst (v := 1) hx hb dcX7_close_83 (by decide) ?_
              refine lv_iadd hx hb dcX7_close_84 ?_
              exact ih_2 x2 x3 x4 x7 v4 ((if 0 ≤ v4 then v4 else 0 - v4) - 1) 0 0 r0 r1 r5 r6 ((2 * x7) + 1) 0 z H locs ls hr0 hr1 hr5 hr6 hM (lv_sub hl [2, 3, 4, 5, 6, 7, 8, 9, 1, 0] rfl) hq
            · have hq := tw_if hq hc
              refine lv_iconst (v := 2) hx hb dcX7_close_72 (by decide) ?_
              refine lv_iload hx hb dcX7_close_73 (lv_at hl 9 rfl) ?_
              refine lv_imul hx hb dcX7_close_75 ?_
              refine lv_goto (tgt := 85) hx hb dcX7_close_76 (by decide) ?_
              exact ih_2 x2 x3 x4 x7 v4 ((if 0 ≤ v4 then v4 else 0 - v4) - 1) 0 0 r0 r1 r5 r6 (2 * x7) 0 z H locs ls hr0 hr1 hr5 hr6 hM (lv_sub hl [2, 3, 4, 5, 6, 7, 8, 9, 1, 0] rfl) hq
      · intro x2 x3 x4 x7 x8 x9 x10 x11 r0 r1 r5 r6 t0 t1 z H locs ls hr0 hr1 hr5 hr6 hM hl hq
        have hq : cm_X7_close_2 vl K (c_X7_close vl K k) x2 x3 x4 x7 x8 x9 x10 x11 r0 r1 r5 r6 t0 t1 z = some z1 := hq
        unfold cm_X7_close_2 at hq
        refine lv_istore (lv' := [(10, .int t0), (0, .ref (u r0)), (1, .ref (u r1)), (2, .int x2), (3, .int x3), (4, .int x4), (5, .ref (u r5)), (6, .ref (u r6)), (7, .int x7), (8, .int x8), (9, .int x9)]) hx hb dcX7_close_85 hl (by decide) rfl (fun ls hl => ?_)
        refine lv_iload hx hb dcX7_close_87 (lv_at hl 0 rfl) ?_
        refine lv_iconst (v := 1) hx hb dcX7_close_89 (by decide) ?_
        refine lv_ixor hx hb dcX7_close_90 ?_
        refine lv_istore (lv' := [(11, .int (t0 ^^^ 1)), (10, .int t0), (0, .ref (u r0)), (1, .ref (u r1)), (2, .int x2), (3, .int x3), (4, .int x4), (5, .ref (u r5)), (6, .ref (u r6)), (7, .int x7), (8, .int x8), (9, .int x9)]) hx hb dcX7_close_91 hl (by decide) rfl (fun ls hl => ?_)
        refine lv_aload_n hx hb dcX7_close_93 rfl (lv_at hl 2 rfl) ?_
        refine lv_aload hx hb dcX7_close_94 (lv_at hl 7 rfl) ?_
        refine lv_aload hx hb dcX7_close_96 (lv_at hl 8 rfl) ?_
        refine lv_iload hx hb dcX7_close_98 (lv_at hl 11 rfl) ?_
        refine lv_iload hx hb dcX7_close_100 (lv_at hl 1 rfl) ?_
        obtain ⟨z5, hcq, hq⟩ := tw_cl0 hq
        refine uw_calv hU hM (va_runV (As := [.ref (u r5), .ref (u r6), .int x9, .int t0]) (rest := []) ⟨hx, hb, hml, hown, hts⟩ (kc_X7_extend l D q vl u hU.1 K r0 r5 r6 x9 t0 hr0 hr5 hr6 z z5 hcq) (cwV 4 hts (tw_gV wC_good xq_593 xq_594 xq_595 xq_54 xq_596) rfl rfl rfl cdd_X7_extend ⟨(Nat.le_of_ble_eq_true rfl), (Nat.le_of_ble_eq_true rfl)⟩) (cw_preV hK hM (co_X7 hr0) rfl) rfl rfl hl.1 rfl (lv_room (Nat.le_of_ble_eq_true rfl)) dcX7_close_102 ⟨(Nat.le_of_ble_eq_true rfl), (Nat.le_of_ble_eq_true rfl)⟩) (fun H locs hM => ?_)
        refine lv_aload_n hx hb dcX7_close_105 rfl (lv_at hl 2 rfl) ?_
        refine lv_aload hx hb dcX7_close_106 (lv_at hl 7 rfl) ?_
        refine lv_aload hx hb dcX7_close_108 (lv_at hl 8 rfl) ?_
        refine lv_iload hx hb dcX7_close_110 (lv_at hl 11 rfl) ?_
        refine lv_iconst (v := 1) hx hb dcX7_close_112 (by decide) ?_
        refine lv_iadd hx hb dcX7_close_113 ?_
        refine lv_iload hx hb dcX7_close_114 (lv_at hl 0 rfl) ?_
        obtain ⟨z6, hcq, hq⟩ := tw_cl0 hq
        refine uw_calv hU hM (va_runV (As := [.ref (u r5), .ref (u r6), .int (x9 + 1), .int (t0 ^^^ 1)]) (rest := []) ⟨hx, hb, hml, hown, hts⟩ (kc_X7_extend l D q vl u hU.1 K r0 r5 r6 (x9 + 1) (t0 ^^^ 1) hr0 hr5 hr6 z5 z6 hcq) (cwV 4 hts (tw_gV wC_good xq_593 xq_594 xq_595 xq_54 xq_596) rfl rfl rfl cdd_X7_extend ⟨(Nat.le_of_ble_eq_true rfl), (Nat.le_of_ble_eq_true rfl)⟩) (cw_preV hK hM (co_X7 hr0) rfl) rfl rfl hl.1 rfl (lv_room (Nat.le_of_ble_eq_true rfl)) dcX7_close_116 ⟨(Nat.le_of_ble_eq_true rfl), (Nat.le_of_ble_eq_true rfl)⟩) (fun H locs hM => ?_)
        refine lv_aload hx hb dcX7_close_119 (lv_at hl 8 rfl) ?_
        refine lv_iload hx hb dcX7_close_121 (lv_at hl 11 rfl) ?_
        refine lv_iload hx hb dcX7_close_123 (lv_at hl 0 rfl) ?_
        refine uw_iast cX_ok hU hx hb hK hM hr6 hq dcX7_close_125 (fun z7 H locs hM hq => ?_)
        refine lv_aload hx hb dcX7_close_126 (lv_at hl 8 rfl) ?_
        refine lv_iload hx hb dcX7_close_128 (lv_at hl 11 rfl) ?_
        refine lv_iconst (v := 1) hx hb dcX7_close_130 (by decide) ?_
        refine lv_iadd hx hb dcX7_close_131 ?_
        refine lv_iload hx hb dcX7_close_132 (lv_at hl 1 rfl) ?_
        refine uw_iast cX_ok hU hx hb hK hM hr6 hq dcX7_close_134 (fun z8 H locs hM hq => ?_)
        refine lv_aload_n hx hb dcX7_close_135 rfl (lv_at hl 2 rfl) ?_
        refine vgX7_18 hx hb hT hown hK hM hr0 dcX7_close_136 ?_
        refine lv_iload hx hb dcX7_close_139 (lv_at hl 9 rfl) ?_
        refine lv_iload hx hb dcX7_close_141 (lv_at hl 10 rfl) ?_
        refine lv_if_le (tgt := 150) hx hb dcX7_close_143 (by decide) (fun hc => ?_) (fun hc => ?_)
        · have hq := tw_it hq hc
          refine lv_iconst (v := (-1)) hx hb dcX7_close_150 (by decide) ?_
          exact ih_3 x2 x3 x4 x7 x8 x9 t0 (t0 ^^^ 1) r0 r1 r5 r6 (-1) x7 z8 H locs ls hr0 hr1 hr5 hr6 hM (lv_sub hl [2, 3, 4, 5, 6, 7, 8, 9, 10, 11, 1, 0] rfl) hq
        · have hq := tw_if hq hc
          refine lv_iconst (v := 1) hx hb dcX7_close_146 (by decide) ?_
          refine lv_goto (tgt := 151) hx hb dcX7_close_147 (by decide) ?_
          exact ih_3 x2 x3 x4 x7 x8 x9 t0 (t0 ^^^ 1) r0 r1 r5 r6 1 x7 z8 H locs ls hr0 hr1 hr5 hr6 hM (lv_sub hl [2, 3, 4, 5, 6, 7, 8, 9, 10, 11, 1, 0] rfl) hq
      · intro x2 x3 x4 x7 x8 x9 x10 x11 r0 r1 r5 r6 t0 t1 z H locs ls hr0 hr1 hr5 hr6 hM hl hq
        have hq : cm_X7_close_3 vl K (c_X7_close vl K k) x2 x3 x4 x7 x8 x9 x10 x11 r0 r1 r5 r6 t0 t1 z = some z1 := hq
        unfold cm_X7_close_3 at hq
        refine uw_iast cX_ok hU hx hb hK hM (cr_X7_2 hr0) hq dcX7_close_151 (fun z9 H locs hM hq => ?_)
        refine lv_aload_n hx hb dcX7_close_152 rfl (lv_at hl 0 rfl) ?_
        refine lv_dup hx hb dcX7_close_153 rfl ?_
        refine vgX7_39 hx hb hT hown hK hM hr0 hq dcX7_close_154 (fun v10 hq => ?_)
        refine lv_iconst (v := 1) hx hb dcX7_close_157 (by decide) ?_
        refine lv_iadd hx hb dcX7_close_158 ?_
        refine vpX7_39 hx hb hT hown hK hM hU hr0 hq dcX7_close_159 (fun z11 H locs hM hq => ?_)
        refine lv_iinc (v := (x7 + 1)) (lv' := [(7, .int (x7 + 1)), (0, .ref (u r0)), (1, .ref (u r1)), (2, .int x2), (3, .int x3), (4, .int x4), (5, .ref (u r5)), (6, .ref (u r6)), (8, .int x8), (9, .int x9), (10, .int x10), (11, .int x11)]) hx hb dcX7_close_162 hl (k := 7) rfl rfl (by decide) rfl (fun ls hl => ?_)
        refine lv_goto (tgt := 37) hx hb dcX7_close_165 (by decide) ?_
        exact ih_1 x2 x3 x4 (x7 + 1) 0 0 0 0 r0 r1 r5 r6 0 0 z11 H locs ls hr0 hr1 hr5 hr6 hM (lv_sub hl [1, 2, 3, 4, 5, 6, 7, 0] rfl) hq
      · intro x2 x3 x4 x7 x8 x9 x10 x11 r0 r1 r5 r6 t0 t1 z H locs ls hr0 hr1 hr5 hr6 hM hl hq
        have hq : cm_X7_close_4 vl K (c_X7_close vl K k) x2 x3 x4 x7 x8 x9 x10 x11 r0 r1 r5 r6 t0 t1 z = some z1 := hq
        unfold cm_X7_close_4 at hq
        refine lv_iconst (v := 0) hx hb dcX7_close_168 (by decide) ?_
        refine lv_istore (lv' := [(7, .int 0), (0, .ref (u r0)), (1, .ref (u r1)), (2, .int x2), (3, .int x3), (4, .int x4), (5, .ref (u r5)), (6, .ref (u r6))]) hx hb dcX7_close_169 hl (by decide) rfl (fun ls hl => ?_)
        exact ih_5 x2 x3 x4 0 0 0 0 0 r0 r1 r5 r6 0 0 z H locs ls hr0 hr1 hr5 hr6 hM (lv_sub hl [1, 2, 3, 4, 5, 6, 7, 0] rfl) hq
      · intro x2 x3 x4 x7 x8 x9 x10 x11 r0 r1 r5 r6 t0 t1 z H locs ls hr0 hr1 hr5 hr6 hM hl hq
        have hq : cm_X7_close_5 vl K (c_X7_close vl K k) x2 x3 x4 x7 x8 x9 x10 x11 r0 r1 r5 r6 t0 t1 z = some z1 := hq
        unfold cm_X7_close_5 at hq
        refine lv_iload hx hb dcX7_close_171 (lv_at hl 7 rfl) ?_
        refine lv_iload hx hb dcX7_close_173 (lv_at hl 4 rfl) ?_
        refine lv_icmp_ge (tgt := 220) hx hb dcX7_close_175 (by decide) (fun hc => ?_) (fun hc => ?_)
        · have hq := tw_it hq hc
          exact cw_vret hx hb hr hlocks hM hq hQQ dcX7_close_220
        · have hq := tw_if hq hc
          refine lv_aload hx hb dcX7_close_178 (lv_at hl 6 rfl) ?_
          refine lv_iload hx hb dcX7_close_180 (lv_at hl 7 rfl) ?_
          refine uw_iald cX_ok hx hb hK hM hr6 hq dcX7_close_182 (fun v12 hq => ?_)
          refine lv_iconst (v := (-1)) hx hb dcX7_close_183 (by decide) ?_
          refine lv_icmp_ne (tgt := 200) hx hb dcX7_close_184 (by decide) (fun hc => ?_) (fun hc => ?_)
          · have hq := tw_if hq hc
            refine lv_aload_n hx hb dcX7_close_200 rfl (lv_at hl 0 rfl) ?_
            refine lv_aload hx hb dcX7_close_201 (lv_at hl 6 rfl) ?_
            refine lv_iload hx hb dcX7_close_203 (lv_at hl 7 rfl) ?_
            refine uw_iald cX_ok hx hb hK hM hr6 hq dcX7_close_205 (fun v13 hq => ?_)
            refine lv_aload hx hb dcX7_close_206 (lv_at hl 5 rfl) ?_
            refine lv_iload hx hb dcX7_close_208 (lv_at hl 7 rfl) ?_
            refine uw_iald cX_ok hx hb hK hM hr5 hq dcX7_close_210 (fun v14 hq => ?_)
            obtain ⟨z15, hcq, hq⟩ := tw_cl0 hq
            refine uw_calv hU hM (va_runV (As := [.int v13, .int v14]) (rest := []) ⟨hx, hb, hml, hown, hts⟩ (kc_X7_link l D q vl u hU.1 K r0 v13 v14 hr0 z z15 hcq) (cwV 2 hts (tw_gV wC_good xq_160 xq_161 xq_162 xq_54 xq_163) rfl rfl rfl cdd_X7_link ⟨(Nat.le_of_ble_eq_true rfl), (Nat.le_of_ble_eq_true rfl)⟩) (cw_preV hK hM (co_X7 hr0) rfl) rfl rfl hl.1 rfl (lv_room (Nat.le_of_ble_eq_true rfl)) dcX7_close_211 ⟨(Nat.le_of_ble_eq_true rfl), (Nat.le_of_ble_eq_true rfl)⟩) (fun H locs hM => ?_)
            exact ih_6 x2 x3 x4 x7 0 0 0 0 r0 r1 r5 r6 0 0 z15 H locs ls hr0 hr1 hr5 hr6 hM (lv_sub hl [0, 1, 2, 3, 4, 5, 6, 7] rfl) hq
          · have hq := tw_it hq hc
            refine lv_aload_n hx hb dcX7_close_187 rfl (lv_at hl 0 rfl) ?_
            refine lv_dup hx hb dcX7_close_188 rfl ?_
            refine vgX7_42 hx hb hT hown hK hM hr0 hq dcX7_close_189 (fun v16 hq => ?_)
            refine lv_iconst (v := 1) hx hb dcX7_close_192 (by decide) ?_
            refine lv_iadd hx hb dcX7_close_193 ?_
            refine vpX7_42 hx hb hT hown hK hM hU hr0 hq dcX7_close_194 (fun z17 H locs hM hq => ?_)
            refine lv_goto (tgt := 214) hx hb dcX7_close_197 (by decide) ?_
            exact ih_6 x2 x3 x4 x7 0 0 0 0 r0 r1 r5 r6 0 0 z17 H locs ls hr0 hr1 hr5 hr6 hM (lv_sub hl [0, 1, 2, 3, 4, 5, 6, 7] rfl) hq
      · intro x2 x3 x4 x7 x8 x9 x10 x11 r0 r1 r5 r6 t0 t1 z H locs ls hr0 hr1 hr5 hr6 hM hl hq
        have hq : cm_X7_close_6 vl K (c_X7_close vl K k) x2 x3 x4 x7 x8 x9 x10 x11 r0 r1 r5 r6 t0 t1 z = some z1 := hq
        unfold cm_X7_close_6 at hq
        refine lv_iinc (v := (x7 + 1)) (lv' := [(7, .int (x7 + 1)), (0, .ref (u r0)), (1, .ref (u r1)), (2, .int x2), (3, .int x3), (4, .int x4), (5, .ref (u r5)), (6, .ref (u r6))]) hx hb dcX7_close_214 hl (k := 7) rfl rfl (by decide) rfl (fun ls hl => ?_)
        refine lv_goto (tgt := 171) hx hb dcX7_close_217 (by decide) ?_
        exact ih_5 x2 x3 x4 (x7 + 1) 0 0 0 0 r0 r1 r5 r6 0 0 z H locs ls hr0 hr1 hr5 hr6 hM (lv_sub hl [1, 2, 3, 4, 5, 6, 7, 0] rfl) hq
  exact (key K).1 x2 x3 x4 0 0 0 0 0 r0 r1 0 0 0 0 z s.heap [] ls hr0 hr1 hM (lv_sub hl [0, 1, 2, 3, 4] rfl) hq
theorem dcX8_isKnown_0 : decode cX8_isKnown 0 = .ok (.aload_n 0, 1) := by decide +kernel
theorem dcX8_isKnown_1 : decode cX8_isKnown 1 = .ok (.getfield 14, 3) := by decide +kernel
theorem dcX8_isKnown_4 : decode cX8_isKnown 4 = .ok (.getfield 49, 3) := by decide +kernel
theorem dcX8_isKnown_7 : decode cX8_isKnown 7 = .ok (.iload_n 1, 1) := by decide +kernel
theorem dcX8_isKnown_8 : decode cX8_isKnown 8 = .ok (.baload, 1) := by decide +kernel
theorem dcX8_isKnown_9 : decode cX8_isKnown 9 = .ok (.ifCond .le 18, 3) := by decide +kernel
theorem dcX8_isKnown_12 : decode cX8_isKnown 12 = .ok (.aload_n 0, 1) := by decide +kernel
theorem dcX8_isKnown_13 : decode cX8_isKnown 13 = .ok (.getfield 14, 3) := by decide +kernel
theorem dcX8_isKnown_16 : decode cX8_isKnown 16 = .ok (.iload_n 1, 1) := by decide +kernel
theorem dcX8_isKnown_17 : decode cX8_isKnown 17 = .ok (.aload_n 2, 1) := by decide +kernel
theorem dcX8_isKnown_18 : decode cX8_isKnown 18 = .ok (.iload_n 3, 1) := by decide +kernel
theorem dcX8_isKnown_19 : decode cX8_isKnown 19 = .ok (.invokevirtual 53, 3) := by decide +kernel
theorem dcX8_isKnown_22 : decode cX8_isKnown 22 = .ok (.ifCond .ne 5, 3) := by decide +kernel
theorem dcX8_isKnown_25 : decode cX8_isKnown 25 = .ok (.iconst 1, 1) := by decide +kernel
theorem dcX8_isKnown_26 : decode cX8_isKnown 26 = .ok (.ireturn, 1) := by decide +kernel
theorem dcX8_isKnown_27 : decode cX8_isKnown 27 = .ok (.aload_n 0, 1) := by decide +kernel
theorem dcX8_isKnown_28 : decode cX8_isKnown 28 = .ok (.getfield 14, 3) := by decide +kernel
theorem dcX8_isKnown_31 : decode cX8_isKnown 31 = .ok (.iload_n 1, 1) := by decide +kernel
theorem dcX8_isKnown_32 : decode cX8_isKnown 32 = .ok (.aload_n 2, 1) := by decide +kernel
theorem dcX8_isKnown_33 : decode cX8_isKnown 33 = .ok (.iload_n 3, 1) := by decide +kernel
theorem dcX8_isKnown_34 : decode cX8_isKnown 34 = .ok (.invokevirtual 57, 3) := by decide +kernel
theorem dcX8_isKnown_37 : decode cX8_isKnown 37 = .ok (.iconst 0, 1) := by decide +kernel
theorem dcX8_isKnown_38 : decode cX8_isKnown 38 = .ok (.ireturn, 1) := by decide +kernel
def cm_X8_isKnown_0 (vl : Nat → Nat) (K : Nat) (go : Nat → Int32 → Int32 → Nat → Nat → ow_MS → Option (Int32 × ow_MS)) (x1 : Int32) (x3 : Int32) (r0 : Nat) (r2 : Nat) (z : ow_MS) : Option (Int32 × ow_MS) :=
 crI (cX vl) z ((r0 + 1000) + 2) x1 fun v1 => (if v1 ≤ 0 then go 1 x1 x3 r0 r2 z
 else cs1 (ce_X3_compare vl K (r0 + 1000) x1 r2 x3 z) fun v3 z2 => (if v3 = 0 then okZ 1 (some (1, z2))
 else go 1 x1 x3 r0 r2 z2))
def cm_X8_isKnown_1 (vl : Nat → Nat) (K : Nat) (go : Nat → Int32 → Int32 → Nat → Nat → ow_MS → Option (Int32 × ow_MS)) (x1 : Int32) (x3 : Int32) (r0 : Nat) (r2 : Nat) (z : ow_MS) : Option (Int32 × ow_MS) :=
 cs0 (ce_X3_write vl K (r0 + 1000) x1 r2 x3 z) fun z4 => okZ 0 (some (0, z4))
def cb_X8_isKnown (vl : Nat → Nat) (K : Nat) (go : Nat → Int32 → Int32 → Nat → Nat → ow_MS → Option (Int32 × ow_MS)) (L : Nat) (x1 : Int32) (x3 : Int32) (r0 : Nat) (r2 : Nat) (z : ow_MS) : Option (Int32 × ow_MS) := match L with
  | 0 => cm_X8_isKnown_0 vl K go x1 x3 r0 r2 z
  | 1 => cm_X8_isKnown_1 vl K go x1 x3 r0 r2 z
  | _ => none
def c_X8_isKnown (vl : Nat → Nat) (K : Nat) : Nat → Nat → Int32 → Int32 → Nat → Nat → ow_MS → Option (Int32 × ow_MS)
  | 0 => fun _ _ _ _ _ _ => none
  | k + 1 => cb_X8_isKnown vl K (c_X8_isKnown vl K k)
def ce_X8_isKnown (vl : Nat → Nat) (K : Nat) (r0 : Nat) (x1 : Int32) (r2 : Nat) (x3 : Int32) (z : ow_MS) : Option (Int32 × ow_MS) := c_X8_isKnown vl K K 0 x1 x3 r0 r2 z
abbrev wc_X8_isKnown : List Cond := .code yX8_isKnown cX8_isKnown 4 (some .boolean) :: wC
theorem cdd_X8_isKnown : yX8_isKnown.cls = RX8 ∧ yX8_isKnown.cls ≠ "java/lang/invoke/MethodHandle" ∧ yX8_isKnown.cls ≠ "java/lang/invoke/VarHandle" ∧ (parseMethodDescriptor yX8_isKnown.desc).map (fun d => d.parameters.length) = some 3 := by decide +kernel
set_option maxHeartbeats 4000000 in
set_option maxRecDepth 100000 in
theorem kc_X8_isKnown (l : Launch) (D : va_G) (q : Nat → ClassId) (vl u : Nat → Nat) (hU0 : tw_inj (cX vl) u) (K : Nat) (r0 : Nat) (x1 : Int32) (r2 : Nat) (x3 : Int32) (hr0 : cw_X8 r0) (hr2 : cw_X3 r2) (z z1 : ow_MS) (r : Int32) (hq : ce_X8_isKnown vl K r0 x1 r2 x3 z = some (r, z1)) : Met l yX8_isKnown wc_X8_isKnown ({ frames := 2, cells := 0, slots := 0, locals := 83 } : Room) (va_Pc [.ref (u r0), .int x1, .ref (u r2), .int x3] (cw_pre D q vl u z)) (va_Qi (fun x (_ : Unit) => x = r) (fun _ t => va_P D vwCl (uw (cX vl) q u z1) t.heap) (tw_A (cX vl) u)) 0 0 (tw_A (cX vl) u) := by
  refine Met.ofW (cc := cX8_isKnown) (maxL := 4) (ret := (some .boolean)) (by decide) rfl ?_
  intro p e s m args below meth c s₁ B hml hv
  obtain ⟨rfl, hP, hK⟩ := hv
  have hx := B.exec
  have hb := B.bytes
  have hr := B.returns
  have hts := atoms_spec (ws := wc_X8_isKnown) B.pre
  have hT : ∀ w ∈ wC, w.before ([.ref (u r0), .int x1, .ref (u r2), .int x3] : List Value).toArray s = true := fun w h => hts w (List.mem_cons_of_mem _ h)
  have hown : s.vm.findClass RX8 = some m.cls := findClass_of_methodNamed B.named
  have hlocks := B.notSynchronized
  have hU : uw_inj (cX vl) u (tw_A (cX vl) u) := ⟨hU0, fun h hh => ⟨h, hh, rfl⟩⟩
  have hM : uw_M D vwCl (cX vl) q (tw_A (cX vl) u) s.heap u z s.heap [] := ⟨hP, va_S.rf⟩
  have hl := lv_entry ([.ref (u r0), .int x1, .ref (u r2), .int x3]) (n := 4) (Nat.le_of_ble_eq_true rfl)
  rw [lg_entry_eq]
  generalize (lg_sl ([.ref (u r0), .int x1, .ref (u r2), .int x3]) ++ List.replicate (4 - (lg_sl ([.ref (u r0), .int x1, .ref (u r2), .int x3])).length) Slot.unset).toArray = ls at hl ⊢
  have hl : lv_has ls 4 [(0, .ref (u r0)), (1, .int x1), (2, .ref (u r2)), (3, .int x3)] := hl
  refine ow_named (fun QQ hQQ => ?_)
  generalize ([.ref (u r0), .int x1, .ref (u r2), .int x3] : List Value).toArray = args at hts hT hQQ ⊢
  have key : ∀ k : Nat, (∀ (x1 : Int32) (x3 : Int32) (r0 : Nat) (r2 : Nat) (z : ow_MS) (H : Heap) (locs : List Loc) (ls : Array Slot), cw_X8 r0 → cw_X3 r2 → uw_M D vwCl (cX vl) q (tw_A (cX vl) u) s.heap u z H locs → lv_has ls 4 [(0, .ref (u r0)), (1, .int x1), (2, .ref (u r2)), (3, .int x3)] → c_X8_isKnown vl K k 0 x1 x3 r0 r2 z = some (r, z1) → W p l e ({ frames := 2, cells := 0, slots := 0, locals := 83 } : Room) s m args below meth c H locs 0 0 QQ (F0 m 0 ls [])) ∧ (∀ (x1 : Int32) (x3 : Int32) (r0 : Nat) (r2 : Nat) (z : ow_MS) (H : Heap) (locs : List Loc) (ls : Array Slot), cw_X8 r0 → cw_X3 r2 → uw_M D vwCl (cX vl) q (tw_A (cX vl) u) s.heap u z H locs → lv_has ls 4 [(0, .ref (u r0)), (1, .int x1), (2, .ref (u r2)), (3, .int x3)] → c_X8_isKnown vl K k 1 x1 x3 r0 r2 z = some (r, z1) → W p l e ({ frames := 2, cells := 0, slots := 0, locals := 83 } : Room) s m args below meth c H locs 0 0 QQ (F0 m 27 ls [])) := by
    intro k
    induction k with
    | zero => exact ⟨fun _ _ _ _ _ _ _ _ _ _ _ _ hq => cw_no hq, fun _ _ _ _ _ _ _ _ _ _ _ _ hq => cw_no hq⟩
    | succ k ih =>
      obtain ⟨ih_0, ih_1⟩ := ih
      refine ⟨?_, ?_⟩
      · intro x1 x3 r0 r2 z H locs ls hr0 hr2 hM hl hq
        have hq : cm_X8_isKnown_0 vl K (c_X8_isKnown vl K k) x1 x3 r0 r2 z = some (r, z1) := hq
        unfold cm_X8_isKnown_0 at hq
        refine lv_aload_n hx hb dcX8_isKnown_0 rfl (lv_at hl 0 rfl) ?_
        refine vgX8_14 hx hb hT hown hK hM hr0 dcX8_isKnown_1 ?_
        refine vgX8_49 hx hb hT hown hK hM (cs_X8_0 hr0) dcX8_isKnown_4 ?_
        refine lv_iload_n hx hb dcX8_isKnown_7 rfl (lv_at hl 1 rfl) ?_
        refine uw_bald cX_ok hx hb hK hM (cr_X3_1 (cs_X8_0 hr0)) hq dcX8_isKnown_8 (fun v1 hq => ?_)
        refine lv_if_le (tgt := 27) hx hb dcX8_isKnown_9 (by decide) (fun hc => ?_) (fun hc => ?_)
        · have hq := tw_it hq hc
          exact ih_1 x1 x3 r0 r2 z H locs ls hr0 hr2 hM (lv_sub hl [0, 1, 2, 3] rfl) hq
        · have hq := tw_if hq hc
          refine lv_aload_n hx hb dcX8_isKnown_12 rfl (lv_at hl 0 rfl) ?_
          refine vgX8_14 hx hb hT hown hK hM hr0 dcX8_isKnown_13 ?_
          refine lv_iload_n hx hb dcX8_isKnown_16 rfl (lv_at hl 1 rfl) ?_
          refine lv_aload_n hx hb dcX8_isKnown_17 rfl (lv_at hl 2 rfl) ?_
          refine lv_iload_n hx hb dcX8_isKnown_18 rfl (lv_at hl 3 rfl) ?_
          obtain ⟨v3, z2, hcq, hq⟩ := tw_cl1 hq
          refine uw_cali hU hM (va_runV (As := [.int x1, .ref (u r2), .int x3]) (rest := []) ⟨hx, hb, hml, hown, hts⟩ (kc_X3_compare l D q vl u hU.1 K (r0 + 1000) x1 r2 x3 (cs_X8_0 hr0) hr2 z z2 v3 hcq) (cwV 3 hts (tw_gV wC_good xq_600 xq_318 xq_319 xq_313 xq_320) rfl rfl rfl cdd_X3_compare ⟨(Nat.le_of_ble_eq_true rfl), (Nat.le_of_ble_eq_true rfl)⟩) (cw_preV hK hM (co_X3 (cs_X8_0 hr0)) rfl) rfl rfl hl.1 rfl (lv_room (Nat.le_of_ble_eq_true rfl)) dcX8_isKnown_19 ⟨(Nat.le_of_ble_eq_true rfl), (Nat.le_of_ble_eq_true rfl)⟩) (fun H locs hM => ?_)
          refine lv_if_ne (tgt := 27) hx hb dcX8_isKnown_22 (by decide) (fun hc => ?_) (fun hc => ?_)
          · have hq := tw_if hq hc
            exact ih_1 x1 x3 r0 r2 z2 H locs ls hr0 hr2 hM (lv_sub hl [0, 1, 2, 3] rfl) hq
          · have hq := tw_it hq hc
            refine lv_iconst (v := 1) hx hb dcX8_isKnown_25 (by decide) ?_
            obtain ⟨hz, hq⟩ := tw_gZ hq
            exact cw_zret hx hb hr hlocks hM hz hq hQQ dcX8_isKnown_26
      · intro x1 x3 r0 r2 z H locs ls hr0 hr2 hM hl hq
        have hq : cm_X8_isKnown_1 vl K (c_X8_isKnown vl K k) x1 x3 r0 r2 z = some (r, z1) := hq
        unfold cm_X8_isKnown_1 at hq
        refine lv_aload_n hx hb dcX8_isKnown_27 rfl (lv_at hl 0 rfl) ?_
        refine vgX8_14 hx hb hT hown hK hM hr0 dcX8_isKnown_28 ?_
        refine lv_iload_n hx hb dcX8_isKnown_31 rfl (lv_at hl 1 rfl) ?_
        refine lv_aload_n hx hb dcX8_isKnown_32 rfl (lv_at hl 2 rfl) ?_
        refine lv_iload_n hx hb dcX8_isKnown_33 rfl (lv_at hl 3 rfl) ?_
        obtain ⟨z4, hcq, hq⟩ := tw_cl0 hq
        refine uw_calv hU hM (va_runV (As := [.int x1, .ref (u r2), .int x3]) (rest := []) ⟨hx, hb, hml, hown, hts⟩ (kc_X3_write l D q vl u hU.1 K (r0 + 1000) x1 r2 x3 (cs_X8_0 hr0) hr2 z z4 hcq) (cwV 3 hts (tw_gV wC_good xq_601 xq_331 xq_332 xq_313 xq_333) rfl rfl rfl cdd_X3_write ⟨(Nat.le_of_ble_eq_true rfl), (Nat.le_of_ble_eq_true rfl)⟩) (cw_preV hK hM (co_X3 (cs_X8_0 hr0)) rfl) rfl rfl hl.1 rfl (lv_room (Nat.le_of_ble_eq_true rfl)) dcX8_isKnown_34 ⟨(Nat.le_of_ble_eq_true rfl), (Nat.le_of_ble_eq_true rfl)⟩) (fun H locs hM => ?_)
        refine lv_iconst (v := 0) hx hb dcX8_isKnown_37 (by decide) ?_
        obtain ⟨hz, hq⟩ := tw_gZ hq
        exact cw_zret hx hb hr hlocks hM hz hq hQQ dcX8_isKnown_38
  exact (key K).1 x1 x3 r0 r2 z s.heap [] ls hr0 hr2 hM (lv_sub hl [0, 1, 2, 3] rfl) hq
theorem dcX8_twoIndex_0 : decode cX8_twoIndex 0 = .ok (.lload_n 0, 1) := dw_at cX8_twoIndex_k0 (p := 0) rfl (by decide +kernel)
theorem dcX8_twoIndex_1 : decode cX8_twoIndex 1 = .ok (.ldc2_w 109, 3) := dw_at cX8_twoIndex_k0 (p := 1) rfl (by decide +kernel)
theorem dcX8_twoIndex_4 : decode cX8_twoIndex 4 = .ok (.lsub, 1) := dw_at cX8_twoIndex_k0 (p := 4) rfl (by decide +kernel)
theorem dcX8_twoIndex_5 : decode cX8_twoIndex 5 = .ok (.lstore 4, 2) := dw_at cX8_twoIndex_k0 (p := 5) rfl (by decide +kernel)
theorem dcX8_twoIndex_7 : decode cX8_twoIndex 7 = .ok (.lload_n 2, 1) := dw_at cX8_twoIndex_k0 (p := 7) rfl (by decide +kernel)
theorem dcX8_twoIndex_8 : decode cX8_twoIndex 8 = .ok (.ldc2_w 111, 3) := dw_at cX8_twoIndex_k0 (p := 8) rfl (by decide +kernel)
theorem dcX8_twoIndex_11 : decode cX8_twoIndex 11 = .ok (.lsub, 1) := dw_at cX8_twoIndex_k0 (p := 11) rfl (by decide +kernel)
theorem dcX8_twoIndex_12 : decode cX8_twoIndex 12 = .ok (.lstore 6, 2) := dw_at cX8_twoIndex_k0 (p := 12) rfl (by decide +kernel)
theorem dcX8_twoIndex_14 : decode cX8_twoIndex 14 = .ok (.lload 4, 2) := dw_at cX8_twoIndex_k0 (p := 14) rfl (by decide +kernel)
theorem dcX8_twoIndex_16 : decode cX8_twoIndex 16 = .ok (.lconst 0, 1) := dw_at cX8_twoIndex_k0 (p := 16) rfl (by decide +kernel)
theorem dcX8_twoIndex_17 : decode cX8_twoIndex 17 = .ok (.lcmp, 1) := dw_at cX8_twoIndex_k0 (p := 17) rfl (by decide +kernel)
theorem dcX8_twoIndex_18 : decode cX8_twoIndex 18 = .ok (.ifCond .lt 28, 3) := dw_at cX8_twoIndex_k0 (p := 18) rfl (by decide +kernel)
theorem dcX8_twoIndex_21 : decode cX8_twoIndex 21 = .ok (.lload 4, 2) := dw_at cX8_twoIndex_k0 (p := 21) rfl (by decide +kernel)
theorem dcX8_twoIndex_23 : decode cX8_twoIndex 23 = .ok (.ldc2_w 113, 3) := dw_at cX8_twoIndex_k0 (p := 23) rfl (by decide +kernel)
theorem dcX8_twoIndex_26 : decode cX8_twoIndex 26 = .ok (.lcmp, 1) := dw_at cX8_twoIndex_k1 (p := 0) rfl (by decide +kernel)
theorem dcX8_twoIndex_27 : decode cX8_twoIndex 27 = .ok (.ifCond .ge 19, 3) := dw_at cX8_twoIndex_k1 (p := 1) rfl (by decide +kernel)
theorem dcX8_twoIndex_30 : decode cX8_twoIndex 30 = .ok (.lload 6, 2) := dw_at cX8_twoIndex_k1 (p := 4) rfl (by decide +kernel)
theorem dcX8_twoIndex_32 : decode cX8_twoIndex 32 = .ok (.lconst 0, 1) := dw_at cX8_twoIndex_k1 (p := 6) rfl (by decide +kernel)
theorem dcX8_twoIndex_33 : decode cX8_twoIndex 33 = .ok (.lcmp, 1) := dw_at cX8_twoIndex_k1 (p := 7) rfl (by decide +kernel)
theorem dcX8_twoIndex_34 : decode cX8_twoIndex 34 = .ok (.ifCond .lt 12, 3) := dw_at cX8_twoIndex_k1 (p := 8) rfl (by decide +kernel)
theorem dcX8_twoIndex_37 : decode cX8_twoIndex 37 = .ok (.lload 6, 2) := dw_at cX8_twoIndex_k1 (p := 11) rfl (by decide +kernel)
theorem dcX8_twoIndex_39 : decode cX8_twoIndex 39 = .ok (.ldc2_w 115, 3) := dw_at cX8_twoIndex_k1 (p := 13) rfl (by decide +kernel)
theorem dcX8_twoIndex_42 : decode cX8_twoIndex 42 = .ok (.lcmp, 1) := dw_at cX8_twoIndex_k1 (p := 16) rfl (by decide +kernel)
theorem dcX8_twoIndex_43 : decode cX8_twoIndex 43 = .ok (.ifCond .lt 7, 3) := dw_at cX8_twoIndex_k1 (p := 17) rfl (by decide +kernel)
theorem dcX8_twoIndex_46 : decode cX8_twoIndex 46 = .ok (.iconst (-1), 1) := dw_at cX8_twoIndex_k1 (p := 20) rfl (by decide +kernel)
theorem dcX8_twoIndex_47 : decode cX8_twoIndex 47 = .ok (.goto 13, 3) := dw_at cX8_twoIndex_k1 (p := 21) rfl (by decide +kernel)
theorem dcX8_twoIndex_50 : decode cX8_twoIndex 50 = .ok (.lload 4, 2) := dw_at cX8_twoIndex_k2 (p := 0) rfl (by decide +kernel)
theorem dcX8_twoIndex_52 : decode cX8_twoIndex 52 = .ok (.ldc2_w 115, 3) := dw_at cX8_twoIndex_k2 (p := 2) rfl (by decide +kernel)
theorem dcX8_twoIndex_55 : decode cX8_twoIndex 55 = .ok (.lmul, 1) := dw_at cX8_twoIndex_k2 (p := 5) rfl (by decide +kernel)
theorem dcX8_twoIndex_56 : decode cX8_twoIndex 56 = .ok (.lload 6, 2) := dw_at cX8_twoIndex_k2 (p := 6) rfl (by decide +kernel)
theorem dcX8_twoIndex_58 : decode cX8_twoIndex 58 = .ok (.ladd, 1) := dw_at cX8_twoIndex_k2 (p := 8) rfl (by decide +kernel)
theorem dcX8_twoIndex_59 : decode cX8_twoIndex 59 = .ok (.l2i, 1) := dw_at cX8_twoIndex_k2 (p := 9) rfl (by decide +kernel)
theorem dcX8_twoIndex_60 : decode cX8_twoIndex 60 = .ok (.ireturn, 1) := dw_at cX8_twoIndex_k2 (p := 10) rfl (by decide +kernel)
def cm_X8_twoIndex_0 (vl : Nat → Nat) (K : Nat) (go : Nat → Int64 → Int64 → Int64 → Int64 → ow_MS → Option (Int32 × ow_MS)) (w0 : Int64) (w2 : Int64) (w4 : Int64) (w6 : Int64) (z : ow_MS) : Option (Int32 × ow_MS) :=
 (if (lg_cmp (w0 - (-64)) 0) < 0 then go 1 w0 w2 (w0 - (-64)) (w2 - (-20)) z
 else (if 0 ≤ (lg_cmp (w0 - (-64)) 129) then go 1 w0 w2 (w0 - (-64)) (w2 - (-20)) z
 else (if (lg_cmp (w2 - (-20)) 0) < 0 then go 1 w0 w2 (w0 - (-64)) (w2 - (-20)) z
 else (if (lg_cmp (w2 - (-20)) 41) < 0 then some ((((w0 - (-64)) * 41) + (w2 - (-20))).toInt32, z)
 else go 1 w0 w2 (w0 - (-64)) (w2 - (-20)) z))))
def cm_X8_twoIndex_1 (vl : Nat → Nat) (K : Nat) (go : Nat → Int64 → Int64 → Int64 → Int64 → ow_MS → Option (Int32 × ow_MS)) (w0 : Int64) (w2 : Int64) (w4 : Int64) (w6 : Int64) (z : ow_MS) : Option (Int32 × ow_MS) :=
 some ((-1), z)
def cb_X8_twoIndex (vl : Nat → Nat) (K : Nat) (go : Nat → Int64 → Int64 → Int64 → Int64 → ow_MS → Option (Int32 × ow_MS)) (L : Nat) (w0 : Int64) (w2 : Int64) (w4 : Int64) (w6 : Int64) (z : ow_MS) : Option (Int32 × ow_MS) := match L with
  | 0 => cm_X8_twoIndex_0 vl K go w0 w2 w4 w6 z
  | 1 => cm_X8_twoIndex_1 vl K go w0 w2 w4 w6 z
  | _ => none
def c_X8_twoIndex (vl : Nat → Nat) (K : Nat) : Nat → Nat → Int64 → Int64 → Int64 → Int64 → ow_MS → Option (Int32 × ow_MS)
  | 0 => fun _ _ _ _ _ _ => none
  | k + 1 => cb_X8_twoIndex vl K (c_X8_twoIndex vl K k)
def ce_X8_twoIndex (vl : Nat → Nat) (K : Nat) (w0 : Int64) (w2 : Int64) (z : ow_MS) : Option (Int32 × ow_MS) := c_X8_twoIndex vl K K 0 w0 w2 0 0 z
abbrev wc_X8_twoIndex : List Cond := .code yX8_twoIndex cX8_twoIndex 8 (some .int) :: wC
theorem cdd_X8_twoIndex : yX8_twoIndex.cls ≠ "java/lang/invoke/MethodHandle" ∧ yX8_twoIndex.cls ≠ "java/lang/invoke/VarHandle" ∧ (parseMethodDescriptor yX8_twoIndex.desc).map (fun d => d.parameters.length) = some 2 := by decide +kernel
set_option maxHeartbeats 4000000 in
set_option maxRecDepth 100000 in
theorem kc_X8_twoIndex (l : Launch) (D : va_G) (q : Nat → ClassId) (vl u : Nat → Nat) (hU0 : tw_inj (cX vl) u) (K : Nat) (w0 : Int64) (w2 : Int64)  (z z1 : ow_MS) (r : Int32) (hq : ce_X8_twoIndex vl K w0 w2 z = some (r, z1)) : Met l yX8_twoIndex wc_X8_twoIndex ({ frames := 0, cells := 0, slots := 0, locals := 0 } : Room) (va_Pc [.long w0, .long w2] (cw_pre D q vl u z)) (va_Qi (fun x (_ : Unit) => x = r) (fun _ t => va_P D vwCl (uw (cX vl) q u z1) t.heap) (tw_A (cX vl) u)) 0 0 (tw_A (cX vl) u) := by
  refine Met.ofW (cc := cX8_twoIndex) (maxL := 8) (ret := (some .int)) (by decide) rfl ?_
  intro p e s m args below meth c s₁ B hml hv
  obtain ⟨rfl, hP, hK⟩ := hv
  have hx := B.exec
  have hb := B.bytes
  have hr := B.returns
  have hts := atoms_spec (ws := wc_X8_twoIndex) B.pre
  have hT : ∀ w ∈ wC, w.before ([.long w0, .long w2] : List Value).toArray s = true := fun w h => hts w (List.mem_cons_of_mem _ h)
  have hown : s.vm.findClass RX8 = some m.cls := findClass_of_methodNamed B.named
  have hlocks := B.notSynchronized
  have hU : uw_inj (cX vl) u (tw_A (cX vl) u) := ⟨hU0, fun h hh => ⟨h, hh, rfl⟩⟩
  have hM : uw_M D vwCl (cX vl) q (tw_A (cX vl) u) s.heap u z s.heap [] := ⟨hP, va_S.rf⟩
  have hl := lv_entry ([.long w0, .long w2]) (n := 8) (Nat.le_of_ble_eq_true rfl)
  rw [lg_entry_eq]
  generalize (lg_sl ([.long w0, .long w2]) ++ List.replicate (8 - (lg_sl ([.long w0, .long w2])).length) Slot.unset).toArray = ls at hl ⊢
  have hl : lv_has ls 8 [(0, .long w0), (2, .long w2)] := hl
  refine ow_named (fun QQ hQQ => ?_)
  generalize ([.long w0, .long w2] : List Value).toArray = args at hts hT hQQ ⊢
  have key : ∀ k : Nat, (∀ (w0 : Int64) (w2 : Int64) (w4 : Int64) (w6 : Int64) (z : ow_MS) (H : Heap) (locs : List Loc) (ls : Array Slot), uw_M D vwCl (cX vl) q (tw_A (cX vl) u) s.heap u z H locs → lv_has ls 8 [(0, .long w0), (2, .long w2)] → c_X8_twoIndex vl K k 0 w0 w2 w4 w6 z = some (r, z1) → W p l e ({ frames := 0, cells := 0, slots := 0, locals := 0 } : Room) s m args below meth c H locs 0 0 QQ (F0 m 0 ls [])) ∧ (∀ (w0 : Int64) (w2 : Int64) (w4 : Int64) (w6 : Int64) (z : ow_MS) (H : Heap) (locs : List Loc) (ls : Array Slot), uw_M D vwCl (cX vl) q (tw_A (cX vl) u) s.heap u z H locs → lv_has ls 8 [(0, .long w0), (2, .long w2), (4, .long w4), (6, .long w6)] → c_X8_twoIndex vl K k 1 w0 w2 w4 w6 z = some (r, z1) → W p l e ({ frames := 0, cells := 0, slots := 0, locals := 0 } : Room) s m args below meth c H locs 0 0 QQ (F0 m 46 ls [])) := by
    intro k
    induction k with
    | zero => exact ⟨fun _ _ _ _ _ _ _ _  _ _ hq => cw_no hq, fun _ _ _ _ _ _ _ _  _ _ hq => cw_no hq⟩
    | succ k ih =>
      obtain ⟨ih_0, ih_1⟩ := ih
      refine ⟨?_, ?_⟩
      · intro w0 w2 w4 w6 z H locs ls  hM hl hq
        have hq : cm_X8_twoIndex_0 vl K (c_X8_twoIndex vl K k) w0 w2 w4 w6 z = some (r, z1) := hq
        unfold cm_X8_twoIndex_0 at hq
        refine lv_lload_n hx hb dcX8_twoIndex_0 rfl (lv_at hl 0 rfl) ?_
        refine lv_ldc2 (v := (-64)) hx hb hown (hT _ xq_635) dcX8_twoIndex_1 ?_
        refine lv_lsub hx hb dcX8_twoIndex_4 ?_
        refine lv_lstore (lv' := [(4, .long (w0 - (-64))), (0, .long w0), (2, .long w2)]) hx hb dcX8_twoIndex_5 hl (by decide) rfl (fun ls hl => ?_)
        refine lv_lload_n hx hb dcX8_twoIndex_7 rfl (lv_at hl 2 rfl) ?_
        refine lv_ldc2 (v := (-20)) hx hb hown (hT _ xq_636) dcX8_twoIndex_8 ?_
        refine lv_lsub hx hb dcX8_twoIndex_11 ?_
        refine lv_lstore (lv' := [(6, .long (w2 - (-20))), (4, .long (w0 - (-64))), (0, .long w0), (2, .long w2)]) hx hb dcX8_twoIndex_12 hl (by decide) rfl (fun ls hl => ?_)
        refine lv_lload hx hb dcX8_twoIndex_14 (lv_at hl 1 rfl) ?_
        refine lv_lconst (v := 0) hx hb dcX8_twoIndex_16 rfl ?_
        refine W.lcmp hx hb dcX8_twoIndex_17 ?_
        refine lv_if_lt (tgt := 46) hx hb dcX8_twoIndex_18 (by decide) (fun hc => ?_) (fun hc => ?_)
        · have hq := tw_it hq hc
          exact ih_1 w0 w2 (w0 - (-64)) (w2 - (-20)) z H locs ls hM (lv_sub hl [2, 3, 1, 0] rfl) hq
        · have hq := tw_if hq hc
          refine lv_lload hx hb dcX8_twoIndex_21 (lv_at hl 1 rfl) ?_
          refine lv_ldc2 (v := 129) hx hb hown (hT _ xq_637) dcX8_twoIndex_23 ?_
          refine W.lcmp hx hb dcX8_twoIndex_26 ?_
          refine lv_if_ge (tgt := 46) hx hb dcX8_twoIndex_27 (by decide) (fun hc => ?_) (fun hc => ?_)
          · have hq := tw_it hq hc
            exact ih_1 w0 w2 (w0 - (-64)) (w2 - (-20)) z H locs ls hM (lv_sub hl [2, 3, 1, 0] rfl) hq
          · have hq := tw_if hq hc
            refine lv_lload hx hb dcX8_twoIndex_30 (lv_at hl 0 rfl) ?_
            refine lv_lconst (v := 0) hx hb dcX8_twoIndex_32 rfl ?_
            refine W.lcmp hx hb dcX8_twoIndex_33 ?_
            refine lv_if_lt (tgt := 46) hx hb dcX8_twoIndex_34 (by decide) (fun hc => ?_) (fun hc => ?_)
            · have hq := tw_it hq hc
              exact ih_1 w0 w2 (w0 - (-64)) (w2 - (-20)) z H locs ls hM (lv_sub hl [2, 3, 1, 0] rfl) hq
            · have hq := tw_if hq hc
              refine lv_lload hx hb dcX8_twoIndex_37 (lv_at hl 0 rfl) ?_
              refine lv_ldc2 (v := 41) hx hb hown (hT _ xq_638) dcX8_twoIndex_39 ?_
              refine W.lcmp hx hb dcX8_twoIndex_42 ?_
              refine lv_if_lt (tgt := 50) hx hb dcX8_twoIndex_43 (by decide) (fun hc => ?_) (fun hc => ?_)
              · have hq := tw_it hq hc
                refine lv_lload hx hb dcX8_twoIndex_50 (lv_at hl 1 rfl) ?_
                refine lv_ldc2 (v := 41) hx hb hown (hT _ xq_638) dcX8_twoIndex_52 ?_
                refine lv_lmul hx hb dcX8_twoIndex_55 ?_
                refine lv_lload hx hb dcX8_twoIndex_56 (lv_at hl 0 rfl) ?_
                refine lv_ladd hx hb dcX8_twoIndex_58 ?_
                refine lv_l2i hx hb dcX8_twoIndex_59 rfl ?_
                exact cw_iret hx hb hr hlocks hM hq hQQ dcX8_twoIndex_60
              · have hq := tw_if hq hc
                exact ih_1 w0 w2 (w0 - (-64)) (w2 - (-20)) z H locs ls hM (lv_sub hl [2, 3, 1, 0] rfl) hq
      · intro w0 w2 w4 w6 z H locs ls  hM hl hq
        have hq : cm_X8_twoIndex_1 vl K (c_X8_twoIndex vl K k) w0 w2 w4 w6 z = some (r, z1) := hq
        unfold cm_X8_twoIndex_1 at hq
        refine lv_iconst (v := (-1)) hx hb dcX8_twoIndex_46 (by decide) ?_
        refine lv_goto (tgt := 60) hx hb dcX8_twoIndex_47 (by decide) ?_
        exact cw_iret hx hb hr hlocks hM hq hQQ dcX8_twoIndex_60
  exact (key K).1 w0 w2 0 0 z s.heap [] ls  hM (lv_sub hl [0, 1] rfl) hq
theorem dcX8_addCircles_0 : decode cX8_addCircles 0 = .ok (.iload_n 1, 1) := dw_at cX8_addCircles_k0 (p := 0) rfl (by decide +kernel)
theorem dcX8_addCircles_1 : decode cX8_addCircles 1 = .ok (.iconst 1, 1) := dw_at cX8_addCircles_k0 (p := 1) rfl (by decide +kernel)
theorem dcX8_addCircles_2 : decode cX8_addCircles 2 = .ok (.isub, 1) := dw_at cX8_addCircles_k0 (p := 2) rfl (by decide +kernel)
theorem dcX8_addCircles_3 : decode cX8_addCircles 3 = .ok (.istore 5, 2) := dw_at cX8_addCircles_k0 (p := 3) rfl (by decide +kernel)
theorem dcX8_addCircles_5 : decode cX8_addCircles 5 = .ok (.iload 5, 2) := dw_at cX8_addCircles_k0 (p := 5) rfl (by decide +kernel)
theorem dcX8_addCircles_7 : decode cX8_addCircles 7 = .ok (.ifCond .ne 24, 3) := dw_at cX8_addCircles_k0 (p := 7) rfl (by decide +kernel)
theorem dcX8_addCircles_10 : decode cX8_addCircles 10 = .ok (.iload 4, 2) := dw_at cX8_addCircles_k0 (p := 10) rfl (by decide +kernel)
theorem dcX8_addCircles_12 : decode cX8_addCircles 12 = .ok (.aload_n 0, 1) := dw_at cX8_addCircles_k0 (p := 12) rfl (by decide +kernel)
theorem dcX8_addCircles_13 : decode cX8_addCircles 13 = .ok (.getfield 26, 3) := dw_at cX8_addCircles_k0 (p := 13) rfl (by decide +kernel)
theorem dcX8_addCircles_16 : decode cX8_addCircles 16 = .ok (.arraylength, 1) := dw_at cX8_addCircles_k0 (p := 16) rfl (by decide +kernel)
theorem dcX8_addCircles_17 : decode cX8_addCircles 17 = .ok (.if_icmp .ge 14, 3) := dw_at cX8_addCircles_k0 (p := 17) rfl (by decide +kernel)
theorem dcX8_addCircles_20 : decode cX8_addCircles 20 = .ok (.aload_n 0, 1) := dw_at cX8_addCircles_k0 (p := 20) rfl (by decide +kernel)
theorem dcX8_addCircles_21 : decode cX8_addCircles 21 = .ok (.getfield 26, 3) := dw_at cX8_addCircles_k0 (p := 21) rfl (by decide +kernel)
theorem dcX8_addCircles_24 : decode cX8_addCircles 24 = .ok (.iload 4, 2) := dw_at cX8_addCircles_k1 (p := 0) rfl (by decide +kernel)
theorem dcX8_addCircles_26 : decode cX8_addCircles 26 = .ok (.dup2, 1) := dw_at cX8_addCircles_k1 (p := 2) rfl (by decide +kernel)
theorem dcX8_addCircles_27 : decode cX8_addCircles 27 = .ok (.iaload, 1) := dw_at cX8_addCircles_k1 (p := 3) rfl (by decide +kernel)
theorem dcX8_addCircles_28 : decode cX8_addCircles 28 = .ok (.iload_n 2, 1) := dw_at cX8_addCircles_k1 (p := 4) rfl (by decide +kernel)
theorem dcX8_addCircles_29 : decode cX8_addCircles 29 = .ok (.iadd, 1) := dw_at cX8_addCircles_k1 (p := 5) rfl (by decide +kernel)
theorem dcX8_addCircles_30 : decode cX8_addCircles 30 = .ok (.iastore, 1) := dw_at cX8_addCircles_k1 (p := 6) rfl (by decide +kernel)
theorem dcX8_addCircles_31 : decode cX8_addCircles 31 = .ok (.iconst 0, 1) := dw_at cX8_addCircles_k1 (p := 7) rfl (by decide +kernel)
theorem dcX8_addCircles_32 : decode cX8_addCircles 32 = .ok (.istore 6, 2) := dw_at cX8_addCircles_k1 (p := 8) rfl (by decide +kernel)
theorem dcX8_addCircles_34 : decode cX8_addCircles 34 = .ok (.iload 6, 2) := dw_at cX8_addCircles_k1 (p := 10) rfl (by decide +kernel)
theorem dcX8_addCircles_36 : decode cX8_addCircles 36 = .ok (.iload 5, 2) := dw_at cX8_addCircles_k1 (p := 12) rfl (by decide +kernel)
theorem dcX8_addCircles_38 : decode cX8_addCircles 38 = .ok (.if_icmp .gt 81, 3) := dw_at cX8_addCircles_k1 (p := 14) rfl (by decide +kernel)
theorem dcX8_addCircles_41 : decode cX8_addCircles 41 = .ok (.iload 5, 2) := dw_at cX8_addCircles_k1 (p := 17) rfl (by decide +kernel)
theorem dcX8_addCircles_43 : decode cX8_addCircles 43 = .ok (.bipush 24, 2) := dw_at cX8_addCircles_k1 (p := 19) rfl (by decide +kernel)
theorem dcX8_addCircles_45 : decode cX8_addCircles 45 = .ok (.if_icmp .ge 74, 3) := dw_at cX8_addCircles_k1 (p := 21) rfl (by decide +kernel)
theorem dcX8_addCircles_48 : decode cX8_addCircles 48 = .ok (.iload_n 3, 1) := dw_at cX8_addCircles_k2 (p := 0) rfl (by decide +kernel)
theorem dcX8_addCircles_49 : decode cX8_addCircles 49 = .ok (.i2l, 1) := dw_at cX8_addCircles_k2 (p := 1) rfl (by decide +kernel)
theorem dcX8_addCircles_50 : decode cX8_addCircles 50 = .ok (.iload 5, 2) := dw_at cX8_addCircles_k2 (p := 2) rfl (by decide +kernel)
theorem dcX8_addCircles_52 : decode cX8_addCircles 52 = .ok (.i2l, 1) := dw_at cX8_addCircles_k2 (p := 4) rfl (by decide +kernel)
theorem dcX8_addCircles_53 : decode cX8_addCircles 53 = .ok (.lsub, 1) := dw_at cX8_addCircles_k2 (p := 5) rfl (by decide +kernel)
theorem dcX8_addCircles_54 : decode cX8_addCircles 54 = .ok (.iconst 2, 1) := dw_at cX8_addCircles_k2 (p := 6) rfl (by decide +kernel)
theorem dcX8_addCircles_55 : decode cX8_addCircles 55 = .ok (.iload 6, 2) := dw_at cX8_addCircles_k2 (p := 7) rfl (by decide +kernel)
theorem dcX8_addCircles_57 : decode cX8_addCircles 57 = .ok (.imul, 1) := dw_at cX8_addCircles_k2 (p := 9) rfl (by decide +kernel)
theorem dcX8_addCircles_58 : decode cX8_addCircles 58 = .ok (.i2l, 1) := dw_at cX8_addCircles_k2 (p := 10) rfl (by decide +kernel)
theorem dcX8_addCircles_59 : decode cX8_addCircles 59 = .ok (.ladd, 1) := dw_at cX8_addCircles_k2 (p := 11) rfl (by decide +kernel)
theorem dcX8_addCircles_60 : decode cX8_addCircles 60 = .ok (.iload 4, 2) := dw_at cX8_addCircles_k2 (p := 12) rfl (by decide +kernel)
theorem dcX8_addCircles_62 : decode cX8_addCircles 62 = .ok (.i2l, 1) := dw_at cX8_addCircles_k2 (p := 14) rfl (by decide +kernel)
theorem dcX8_addCircles_63 : decode cX8_addCircles 63 = .ok (.iload 5, 2) := dw_at cX8_addCircles_k2 (p := 15) rfl (by decide +kernel)
theorem dcX8_addCircles_65 : decode cX8_addCircles 65 = .ok (.i2l, 1) := dw_at cX8_addCircles_k2 (p := 17) rfl (by decide +kernel)
theorem dcX8_addCircles_66 : decode cX8_addCircles 66 = .ok (.lsub, 1) := dw_at cX8_addCircles_k2 (p := 18) rfl (by decide +kernel)
theorem dcX8_addCircles_67 : decode cX8_addCircles 67 = .ok (.invokestatic 105, 3) := dw_at cX8_addCircles_k2 (p := 19) rfl (by decide +kernel)
theorem dcX8_addCircles_70 : decode cX8_addCircles 70 = .ok (.istore 7, 2) := dw_at cX8_addCircles_k2 (p := 22) rfl (by decide +kernel)
theorem dcX8_addCircles_72 : decode cX8_addCircles 72 = .ok (.iload 7, 2) := dw_at cX8_addCircles_k3 (p := 0) rfl (by decide +kernel)
theorem dcX8_addCircles_74 : decode cX8_addCircles 74 = .ok (.iconst (-1), 1) := dw_at cX8_addCircles_k3 (p := 2) rfl (by decide +kernel)
theorem dcX8_addCircles_75 : decode cX8_addCircles 75 = .ok (.if_icmp .eq 38, 3) := dw_at cX8_addCircles_k3 (p := 3) rfl (by decide +kernel)
theorem dcX8_addCircles_78 : decode cX8_addCircles 78 = .ok (.aload_n 0, 1) := dw_at cX8_addCircles_k3 (p := 6) rfl (by decide +kernel)
theorem dcX8_addCircles_79 : decode cX8_addCircles 79 = .ok (.getfield 30, 3) := dw_at cX8_addCircles_k3 (p := 7) rfl (by decide +kernel)
theorem dcX8_addCircles_82 : decode cX8_addCircles 82 = .ok (.iload 7, 2) := dw_at cX8_addCircles_k3 (p := 10) rfl (by decide +kernel)
theorem dcX8_addCircles_84 : decode cX8_addCircles 84 = .ok (.dup2, 1) := dw_at cX8_addCircles_k3 (p := 12) rfl (by decide +kernel)
theorem dcX8_addCircles_85 : decode cX8_addCircles 85 = .ok (.iaload, 1) := dw_at cX8_addCircles_k3 (p := 13) rfl (by decide +kernel)
theorem dcX8_addCircles_86 : decode cX8_addCircles 86 = .ok (.iload_n 2, 1) := dw_at cX8_addCircles_k3 (p := 14) rfl (by decide +kernel)
theorem dcX8_addCircles_87 : decode cX8_addCircles 87 = .ok (.aload_n 0, 1) := dw_at cX8_addCircles_k3 (p := 15) rfl (by decide +kernel)
theorem dcX8_addCircles_88 : decode cX8_addCircles 88 = .ok (.getfield 35, 3) := dw_at cX8_addCircles_k3 (p := 16) rfl (by decide +kernel)
theorem dcX8_addCircles_91 : decode cX8_addCircles 91 = .ok (.iload 5, 2) := dw_at cX8_addCircles_k3 (p := 19) rfl (by decide +kernel)
theorem dcX8_addCircles_93 : decode cX8_addCircles 93 = .ok (.aaload, 1) := dw_at cX8_addCircles_k3 (p := 21) rfl (by decide +kernel)
theorem dcX8_addCircles_94 : decode cX8_addCircles 94 = .ok (.iload 6, 2) := dw_at cX8_addCircles_k3 (p := 22) rfl (by decide +kernel)
theorem dcX8_addCircles_96 : decode cX8_addCircles 96 = .ok (.iaload, 1) := dw_at cX8_addCircles_k4 (p := 0) rfl (by decide +kernel)
theorem dcX8_addCircles_97 : decode cX8_addCircles 97 = .ok (.imul, 1) := dw_at cX8_addCircles_k4 (p := 1) rfl (by decide +kernel)
theorem dcX8_addCircles_98 : decode cX8_addCircles 98 = .ok (.iload 6, 2) := dw_at cX8_addCircles_k4 (p := 2) rfl (by decide +kernel)
theorem dcX8_addCircles_100 : decode cX8_addCircles 100 = .ok (.iconst 1, 1) := dw_at cX8_addCircles_k4 (p := 4) rfl (by decide +kernel)
theorem dcX8_addCircles_101 : decode cX8_addCircles 101 = .ok (.iand, 1) := dw_at cX8_addCircles_k4 (p := 5) rfl (by decide +kernel)
theorem dcX8_addCircles_102 : decode cX8_addCircles 102 = .ok (.ifCond .ne 7, 3) := dw_at cX8_addCircles_k4 (p := 6) rfl (by decide +kernel)
theorem dcX8_addCircles_105 : decode cX8_addCircles 105 = .ok (.iconst 1, 1) := dw_at cX8_addCircles_k4 (p := 9) rfl (by decide +kernel)
theorem dcX8_addCircles_106 : decode cX8_addCircles 106 = .ok (.goto 4, 3) := dw_at cX8_addCircles_k4 (p := 10) rfl (by decide +kernel)
theorem dcX8_addCircles_109 : decode cX8_addCircles 109 = .ok (.iconst (-1), 1) := dw_at cX8_addCircles_k4 (p := 13) rfl (by decide +kernel)
theorem dcX8_addCircles_110 : decode cX8_addCircles 110 = .ok (.imul, 1) := dw_at cX8_addCircles_k4 (p := 14) rfl (by decide +kernel)
theorem dcX8_addCircles_111 : decode cX8_addCircles 111 = .ok (.iadd, 1) := dw_at cX8_addCircles_k4 (p := 15) rfl (by decide +kernel)
theorem dcX8_addCircles_112 : decode cX8_addCircles 112 = .ok (.iastore, 1) := dw_at cX8_addCircles_k4 (p := 16) rfl (by decide +kernel)
theorem dcX8_addCircles_113 : decode cX8_addCircles 113 = .ok (.iinc 6 1, 3) := dw_at cX8_addCircles_k4 (p := 17) rfl (by decide +kernel)
theorem dcX8_addCircles_116 : decode cX8_addCircles 116 = .ok (.goto (-82), 3) := dw_at cX8_addCircles_k4 (p := 20) rfl (by decide +kernel)
theorem dcX8_addCircles_119 : decode cX8_addCircles 119 = .ok (.return_, 1) := dw_at cX8_addCircles_k4 (p := 23) rfl (by decide +kernel)
def cm_X8_addCircles_0 (vl : Nat → Nat) (K : Nat) (go : Nat → Int32 → Int32 → Int32 → Int32 → Int32 → Int32 → Int32 → Nat → Int32 → Int32 → Int32 → Int32 → ow_MS → Option ow_MS) (x1 : Int32) (x2 : Int32) (x3 : Int32) (x4 : Int32) (x5 : Int32) (x6 : Int32) (x7 : Int32) (r0 : Nat) (t0 : Int32) (t1 : Int32) (t2 : Int32) (t3 : Int32) (z : ow_MS) : Option ow_MS :=
 (if (x1 - 1) = 0 then (if (Int32.ofNat (uw_len (cX vl) z (r0 + 3))) ≤ x4 then go 1 x1 x2 x3 x4 (x1 - 1) 0 0 r0 0 0 0 0 z
 else crI (cX vl) z (r0 + 3) x4 fun v1 => ctI (cX vl) z (r0 + 3) x4 (v1 + x2) fun z2 => go 1 x1 x2 x3 x4 (x1 - 1) 0 0 r0 0 0 0 0 z2)
 else go 1 x1 x2 x3 x4 (x1 - 1) 0 0 r0 0 0 0 0 z)
def cm_X8_addCircles_1 (vl : Nat → Nat) (K : Nat) (go : Nat → Int32 → Int32 → Int32 → Int32 → Int32 → Int32 → Int32 → Nat → Int32 → Int32 → Int32 → Int32 → ow_MS → Option ow_MS) (x1 : Int32) (x2 : Int32) (x3 : Int32) (x4 : Int32) (x5 : Int32) (x6 : Int32) (x7 : Int32) (r0 : Nat) (t0 : Int32) (t1 : Int32) (t2 : Int32) (t3 : Int32) (z : ow_MS) : Option ow_MS :=
 go 2 x1 x2 x3 x4 x5 0 0 r0 0 0 0 0 z
def cm_X8_addCircles_2 (vl : Nat → Nat) (K : Nat) (go : Nat → Int32 → Int32 → Int32 → Int32 → Int32 → Int32 → Int32 → Nat → Int32 → Int32 → Int32 → Int32 → ow_MS → Option ow_MS) (x1 : Int32) (x2 : Int32) (x3 : Int32) (x4 : Int32) (x5 : Int32) (x6 : Int32) (x7 : Int32) (r0 : Nat) (t0 : Int32) (t1 : Int32) (t2 : Int32) (t3 : Int32) (z : ow_MS) : Option ow_MS :=
 (if x5 < x6 then some z
 else (if 24 ≤ x5 then some z
 else cs1 (ce_X8_twoIndex vl K ((x3.toInt64 - x5.toInt64) + ((2 * x6).toInt64)) (x4.toInt64 - x5.toInt64) z) fun v4 z3 => (if v4 = (-1) then go 4 x1 x2 x3 x4 x5 x6 v4 r0 0 0 0 0 z3
 else crI (cX vl) z3 (r0 + 4) v4 fun v5 => crX 24 x5 fun j6 => crI (cX vl) z3 (r0 + 15001 + j6) x6 fun v7 => (if (x6 &&& 1) = 0 then go 3 x1 x2 x3 x4 x5 x6 v4 r0 1 (x2 * v7) v5 v4 z3
 else go 3 x1 x2 x3 x4 x5 x6 v4 r0 (-1) (x2 * v7) v5 v4 z3))))
def cm_X8_addCircles_3 (vl : Nat → Nat) (K : Nat) (go : Nat → Int32 → Int32 → Int32 → Int32 → Int32 → Int32 → Int32 → Nat → Int32 → Int32 → Int32 → Int32 → ow_MS → Option ow_MS) (x1 : Int32) (x2 : Int32) (x3 : Int32) (x4 : Int32) (x5 : Int32) (x6 : Int32) (x7 : Int32) (r0 : Nat) (t0 : Int32) (t1 : Int32) (t2 : Int32) (t3 : Int32) (z : ow_MS) : Option ow_MS :=
 ctI (cX vl) z (r0 + 4) t3 (t2 + (t1 * t0)) fun z8 => go 4 x1 x2 x3 x4 x5 x6 x7 r0 0 0 0 0 z8
def cm_X8_addCircles_4 (vl : Nat → Nat) (K : Nat) (go : Nat → Int32 → Int32 → Int32 → Int32 → Int32 → Int32 → Int32 → Nat → Int32 → Int32 → Int32 → Int32 → ow_MS → Option ow_MS) (x1 : Int32) (x2 : Int32) (x3 : Int32) (x4 : Int32) (x5 : Int32) (x6 : Int32) (x7 : Int32) (r0 : Nat) (t0 : Int32) (t1 : Int32) (t2 : Int32) (t3 : Int32) (z : ow_MS) : Option ow_MS :=
 go 2 x1 x2 x3 x4 x5 (x6 + 1) 0 r0 0 0 0 0 z
def cb_X8_addCircles (vl : Nat → Nat) (K : Nat) (go : Nat → Int32 → Int32 → Int32 → Int32 → Int32 → Int32 → Int32 → Nat → Int32 → Int32 → Int32 → Int32 → ow_MS → Option ow_MS) (L : Nat) (x1 : Int32) (x2 : Int32) (x3 : Int32) (x4 : Int32) (x5 : Int32) (x6 : Int32) (x7 : Int32) (r0 : Nat) (t0 : Int32) (t1 : Int32) (t2 : Int32) (t3 : Int32) (z : ow_MS) : Option ow_MS := match L with
  | 0 => cm_X8_addCircles_0 vl K go x1 x2 x3 x4 x5 x6 x7 r0 t0 t1 t2 t3 z
  | 1 => cm_X8_addCircles_1 vl K go x1 x2 x3 x4 x5 x6 x7 r0 t0 t1 t2 t3 z
  | 2 => cm_X8_addCircles_2 vl K go x1 x2 x3 x4 x5 x6 x7 r0 t0 t1 t2 t3 z
  | 3 => cm_X8_addCircles_3 vl K go x1 x2 x3 x4 x5 x6 x7 r0 t0 t1 t2 t3 z
  | 4 => cm_X8_addCircles_4 vl K go x1 x2 x3 x4 x5 x6 x7 r0 t0 t1 t2 t3 z
  | _ => none
def c_X8_addCircles (vl : Nat → Nat) (K : Nat) : Nat → Nat → Int32 → Int32 → Int32 → Int32 → Int32 → Int32 → Int32 → Nat → Int32 → Int32 → Int32 → Int32 → ow_MS → Option ow_MS
  | 0 => fun _ _ _ _ _ _ _ _ _ _ _ _ _ _ => none
  | k + 1 => cb_X8_addCircles vl K (c_X8_addCircles vl K k)
def ce_X8_addCircles (vl : Nat → Nat) (K : Nat) (r0 : Nat) (x1 : Int32) (x2 : Int32) (x3 : Int32) (x4 : Int32) (z : ow_MS) : Option ow_MS := c_X8_addCircles vl K K 0 x1 x2 x3 x4 0 0 0 r0 0 0 0 0 z
abbrev wc_X8_addCircles : List Cond := .code yX8_addCircles cX8_addCircles 8 none :: wC
theorem cdd_X8_addCircles : yX8_addCircles.cls = RX8 ∧ yX8_addCircles.cls ≠ "java/lang/invoke/MethodHandle" ∧ yX8_addCircles.cls ≠ "java/lang/invoke/VarHandle" ∧ (parseMethodDescriptor yX8_addCircles.desc).map (fun d => d.parameters.length) = some 4 := by decide +kernel
set_option maxHeartbeats 4000000 in
set_option maxRecDepth 100000 in
theorem kc_X8_addCircles (l : Launch) (D : va_G) (q : Nat → ClassId) (vl u : Nat → Nat) (hU0 : tw_inj (cX vl) u) (K : Nat) (r0 : Nat) (x1 : Int32) (x2 : Int32) (x3 : Int32) (x4 : Int32) (hr0 : cw_X8 r0) (z z1 : ow_MS) (hq : ce_X8_addCircles vl K r0 x1 x2 x3 x4 z = some z1) : Met l yX8_addCircles wc_X8_addCircles ({ frames := 1, cells := 0, slots := 0, locals := 27 } : Room) (va_Pc [.ref (u r0), .int x1, .int x2, .int x3, .int x4] (cw_pre D q vl u z)) (va_Qv (fun (_ : Unit) => True) (fun _ t => va_P D vwCl (uw (cX vl) q u z1) t.heap) (tw_A (cX vl) u)) 0 0 (tw_A (cX vl) u) := by
  refine Met.ofW (cc := cX8_addCircles) (maxL := 8) (ret := none) (by decide) rfl ?_
  intro p e s m args below meth c s₁ B hml hv
  obtain ⟨rfl, hP, hK⟩ := hv
  have hx := B.exec
  have hb := B.bytes
  have hr := B.returns
  have hts := atoms_spec (ws := wc_X8_addCircles) B.pre
  have hT : ∀ w ∈ wC, w.before ([.ref (u r0), .int x1, .int x2, .int x3, .int x4] : List Value).toArray s = true := fun w h => hts w (List.mem_cons_of_mem _ h)
  have hown : s.vm.findClass RX8 = some m.cls := findClass_of_methodNamed B.named
  have hlocks := B.notSynchronized
  have hU : uw_inj (cX vl) u (tw_A (cX vl) u) := ⟨hU0, fun h hh => ⟨h, hh, rfl⟩⟩
  have hM : uw_M D vwCl (cX vl) q (tw_A (cX vl) u) s.heap u z s.heap [] := ⟨hP, va_S.rf⟩
  have hl := lv_entry ([.ref (u r0), .int x1, .int x2, .int x3, .int x4]) (n := 8) (Nat.le_of_ble_eq_true rfl)
  rw [lg_entry_eq]
  generalize (lg_sl ([.ref (u r0), .int x1, .int x2, .int x3, .int x4]) ++ List.replicate (8 - (lg_sl ([.ref (u r0), .int x1, .int x2, .int x3, .int x4])).length) Slot.unset).toArray = ls at hl ⊢
  have hl : lv_has ls 8 [(0, .ref (u r0)), (1, .int x1), (2, .int x2), (3, .int x3), (4, .int x4)] := hl
  refine ow_named (fun QQ hQQ => ?_)
  generalize ([.ref (u r0), .int x1, .int x2, .int x3, .int x4] : List Value).toArray = args at hts hT hQQ ⊢
  have key : ∀ k : Nat, (∀ (x1 : Int32) (x2 : Int32) (x3 : Int32) (x4 : Int32) (x5 : Int32) (x6 : Int32) (x7 : Int32) (r0 : Nat) (t0 : Int32) (t1 : Int32) (t2 : Int32) (t3 : Int32) (z : ow_MS) (H : Heap) (locs : List Loc) (ls : Array Slot), cw_X8 r0 → uw_M D vwCl (cX vl) q (tw_A (cX vl) u) s.heap u z H locs → lv_has ls 8 [(0, .ref (u r0)), (1, .int x1), (2, .int x2), (3, .int x3), (4, .int x4)] → c_X8_addCircles vl K k 0 x1 x2 x3 x4 x5 x6 x7 r0 t0 t1 t2 t3 z = some z1 → W p l e ({ frames := 1, cells := 0, slots := 0, locals := 27 } : Room) s m args below meth c H locs 0 0 QQ (F0 m 0 ls [])) ∧ (∀ (x1 : Int32) (x2 : Int32) (x3 : Int32) (x4 : Int32) (x5 : Int32) (x6 : Int32) (x7 : Int32) (r0 : Nat) (t0 : Int32) (t1 : Int32) (t2 : Int32) (t3 : Int32) (z : ow_MS) (H : Heap) (locs : List Loc) (ls : Array Slot), cw_X8 r0 → uw_M D vwCl (cX vl) q (tw_A (cX vl) u) s.heap u z H locs → lv_has ls 8 [(0, .ref (u r0)), (1, .int x1), (2, .int x2), (3, .int x3), (4, .int x4), (5, .int x5)] → c_X8_addCircles vl K k 1 x1 x2 x3 x4 x5 x6 x7 r0 t0 t1 t2 t3 z = some z1 → W p l e ({ frames := 1, cells := 0, slots := 0, locals := 27 } : Room) s m args below meth c H locs 0 0 QQ (F0 m 31 ls [])) ∧ (∀ (x1 : Int32) (x2 : Int32) (x3 : Int32) (x4 : Int32) (x5 : Int32) (x6 : Int32) (x7 : Int32) (r0 : Nat) (t0 : Int32) (t1 : Int32) (t2 : Int32) (t3 : Int32) (z : ow_MS) (H : Heap) (locs : List Loc) (ls : Array Slot), cw_X8 r0 → uw_M D vwCl (cX vl) q (tw_A (cX vl) u) s.heap u z H locs → lv_has ls 8 [(0, .ref (u r0)), (1, .int x1), (2, .int x2), (3, .int x3), (4, .int x4), (5, .int x5), (6, .int x6)] → c_X8_addCircles vl K k 2 x1 x2 x3 x4 x5 x6 x7 r0 t0 t1 t2 t3 z = some z1 → W p l e ({ frames := 1, cells := 0, slots := 0, locals := 27 } : Room) s m args below meth c H locs 0 0 QQ (F0 m 34 ls [])) ∧ (∀ (x1 : Int32) (x2 : Int32) (x3 : Int32) (x4 : Int32) (x5 : Int32) (x6 : Int32) (x7 : Int32) (r0 : Nat) (t0 : Int32) (t1 : Int32) (t2 : Int32) (t3 : Int32) (z : ow_MS) (H : Heap) (locs : List Loc) (ls : Array Slot), cw_X8 r0 → uw_M D vwCl (cX vl) q (tw_A (cX vl) u) s.heap u z H locs → lv_has ls 8 [(0, .ref (u r0)), (1, .int x1), (2, .int x2), (3, .int x3), (4, .int x4), (5, .int x5), (6, .int x6), (7, .int x7)] → c_X8_addCircles vl K k 3 x1 x2 x3 x4 x5 x6 x7 r0 t0 t1 t2 t3 z = some z1 → W p l e ({ frames := 1, cells := 0, slots := 0, locals := 27 } : Room) s m args below meth c H locs 0 0 QQ (F0 m 110 ls [.int t0, .int t1, .int t2, .int t3, .ref (u (r0 + 4))])) ∧ (∀ (x1 : Int32) (x2 : Int32) (x3 : Int32) (x4 : Int32) (x5 : Int32) (x6 : Int32) (x7 : Int32) (r0 : Nat) (t0 : Int32) (t1 : Int32) (t2 : Int32) (t3 : Int32) (z : ow_MS) (H : Heap) (locs : List Loc) (ls : Array Slot), cw_X8 r0 → uw_M D vwCl (cX vl) q (tw_A (cX vl) u) s.heap u z H locs → lv_has ls 8 [(0, .ref (u r0)), (1, .int x1), (2, .int x2), (3, .int x3), (4, .int x4), (5, .int x5), (6, .int x6), (7, .int x7)] → c_X8_addCircles vl K k 4 x1 x2 x3 x4 x5 x6 x7 r0 t0 t1 t2 t3 z = some z1 → W p l e ({ frames := 1, cells := 0, slots := 0, locals := 27 } : Room) s m args below meth c H locs 0 0 QQ (F0 m 113 ls [])) := by
    intro k
    induction k with
    | zero => exact ⟨fun _ _ _ _ _ _ _ _ _ _ _ _ _ _ _ _ _ _ _ hq => cw_no hq, fun _ _ _ _ _ _ _ _ _ _ _ _ _ _ _ _ _ _ _ hq => cw_no hq, fun _ _ _ _ _ _ _ _ _ _ _ _ _ _ _ _ _ _ _ hq => cw_no hq, fun _ _ _ _ _ _ _ _ _ _ _ _ _ _ _ _ _ _ _ hq => cw_no hq, fun _ _ _ _ _ _ _ _ _ _ _ _ _ _ _ _ _ _ _ hq => cw_no hq⟩
    | succ k ih =>
      obtain ⟨ih_0, ih_1, ih_2, ih_3, ih_4⟩ := ih
      refine ⟨?_, ?_, ?_, ?_, ?_⟩
      · intro x1 x2 x3 x4 x5 x6 x7 r0 t0 t1 t2 t3 z H locs ls hr0 hM hl hq
        have hq : cm_X8_addCircles_0 vl K (c_X8_addCircles vl K k) x1 x2 x3 x4 x5 x6 x7 r0 t0 t1 t2 t3 z = some z1 := hq
        unfold cm_X8_addCircles_0 at hq
        refine lv_iload_n hx hb dcX8_addCircles_0 rfl (lv_at hl 1 rfl) ?_
        refine lv_iconst (v := 1) hx hb dcX8_addCircles_1 (by decide) ?_
        refine lv_isub hx hb dcX8_addCircles_2 ?_
        refine lv_istore (lv' := [(5, .int (x1 - 1)), (0, .ref (u r0)), (1, .int x1), (2, .int x2), (3, .int x3), (4, .int x4)]) hx hb dcX8_addCircles_3 hl (by decide) rfl (fun ls hl => ?_)
        refine lv_iload hx hb dcX8_addCircles_5 (lv_at hl 0 rfl) ?_
        refine lv_if_ne (tgt := 31) hx hb dcX8_addCircles_7 (by decide) (fun hc => ?_) (fun hc => ?_)
        · have hq := tw_if hq hc
          exact ih_1 x1 x2 x3 x4 (x1 - 1) 0 0 r0 0 0 0 0 z H locs ls hr0 hM (lv_sub hl [1, 2, 3, 4, 5, 0] rfl) hq
        · have hq := tw_it hq hc
          refine lv_iload hx hb dcX8_addCircles_10 (lv_at hl 5 rfl) ?_
          refine lv_aload_n hx hb dcX8_addCircles_12 rfl (lv_at hl 1 rfl) ?_
          refine vgX8_26 hx hb hT hown hK hM hr0 dcX8_addCircles_13 ?_
          refine uw_alen cX_ok hx hb hK hM (cr_X8_2 hr0) dcX8_addCircles_16 ?_
          refine lv_icmp_ge (tgt := 31) hx hb dcX8_addCircles_17 (by decide) (fun hc => ?_) (fun hc => ?_)
          · have hq := tw_it hq hc
            exact ih_1 x1 x2 x3 x4 (x1 - 1) 0 0 r0 0 0 0 0 z H locs ls hr0 hM (lv_sub hl [1, 2, 3, 4, 5, 0] rfl) hq
          · have hq := tw_if hq hc
            refine lv_aload_n hx hb dcX8_addCircles_20 rfl (lv_at hl 1 rfl) ?_
            refine vgX8_26 hx hb hT hown hK hM hr0 dcX8_addCircles_21 ?_
            refine lv_iload hx hb dcX8_addCircles_24 (lv_at hl 5 rfl) ?_
            refine lv_dup2_11 hx hb dcX8_addCircles_26 rfl rfl ?_
            refine uw_iald cX_ok hx hb hK hM (cr_X8_2 hr0) hq dcX8_addCircles_27 (fun v1 hq => ?_)
            refine lv_iload_n hx hb dcX8_addCircles_28 rfl (lv_at hl 3 rfl) ?_
            refine lv_iadd hx hb dcX8_addCircles_29 ?_
            refine uw_iast cX_ok hU hx hb hK hM (cr_X8_2 hr0) hq dcX8_addCircles_30 (fun z2 H locs hM hq => ?_)
            exact ih_1 x1 x2 x3 x4 (x1 - 1) 0 0 r0 0 0 0 0 z2 H locs ls hr0 hM (lv_sub hl [1, 2, 3, 4, 5, 0] rfl) hq
      · intro x1 x2 x3 x4 x5 x6 x7 r0 t0 t1 t2 t3 z H locs ls hr0 hM hl hq
        have hq : cm_X8_addCircles_1 vl K (c_X8_addCircles vl K k) x1 x2 x3 x4 x5 x6 x7 r0 t0 t1 t2 t3 z = some z1 := hq
        unfold cm_X8_addCircles_1 at hq
        refine lv_iconst (v := 0) hx hb dcX8_addCircles_31 (by decide) ?_
        refine lv_istore (lv' := [(6, .int 0), (0, .ref (u r0)), (1, .int x1), (2, .int x2), (3, .int x3), (4, .int x4), (5, .int x5)]) hx hb dcX8_addCircles_32 hl (by decide) rfl (fun ls hl => ?_)
        exact ih_2 x1 x2 x3 x4 x5 0 0 r0 0 0 0 0 z H locs ls hr0 hM (lv_sub hl [1, 2, 3, 4, 5, 6, 0] rfl) hq
      · intro x1 x2 x3 x4 x5 x6 x7 r0 t0 t1 t2 t3 z H locs ls hr0 hM hl hq
        have hq : cm_X8_addCircles_2 vl K (c_X8_addCircles vl K k) x1 x2 x3 x4 x5 x6 x7 r0 t0 t1 t2 t3 z = some z1 := hq
        unfold cm_X8_addCircles_2 at hq
        refine lv_iload hx hb dcX8_addCircles_34 (lv_at hl 6 rfl) ?_
        refine lv_iload hx hb dcX8_addCircles_36 (lv_at hl 5 rfl) ?_
        refine lv_icmp_gt (tgt := 119) hx hb dcX8_addCircles_38 (by decide) (fun hc => ?_) (fun hc => ?_)
        · have hq := tw_it hq hc
          exact cw_vret hx hb hr hlocks hM hq hQQ dcX8_addCircles_119
        · have hq := tw_if hq hc
          refine lv_iload hx hb dcX8_addCircles_41 (lv_at hl 5 rfl) ?_
          refine lv_bipush (v := 24) hx hb dcX8_addCircles_43 (by decide) ?_
          refine lv_icmp_ge (tgt := 119) hx hb dcX8_addCircles_45 (by decide) (fun hc => ?_) (fun hc => ?_)
          · have hq := tw_it hq hc
            exact cw_vret hx hb hr hlocks hM hq hQQ dcX8_addCircles_119
          · have hq := tw_if hq hc
            refine lv_iload_n hx hb dcX8_addCircles_48 rfl (lv_at hl 3 rfl) ?_
            refine lv_i2l hx hb dcX8_addCircles_49 rfl ?_
            refine lv_iload hx hb dcX8_addCircles_50 (lv_at hl 5 rfl) ?_
            refine lv_i2l hx hb dcX8_addCircles_52 rfl ?_
            refine lv_lsub hx hb dcX8_addCircles_53 ?_
            refine lv_iconst (v := 2) hx hb dcX8_addCircles_54 (by decide) ?_
            refine lv_iload hx hb dcX8_addCircles_55 (lv_at hl 6 rfl) ?_
            refine lv_imul hx hb dcX8_addCircles_57 ?_
            refine lv_i2l hx hb dcX8_addCircles_58 rfl ?_
            refine lv_ladd hx hb dcX8_addCircles_59 ?_
            refine lv_iload hx hb dcX8_addCircles_60 (lv_at hl 4 rfl) ?_
            refine lv_i2l hx hb dcX8_addCircles_62 rfl ?_
            refine lv_iload hx hb dcX8_addCircles_63 (lv_at hl 5 rfl) ?_
            refine lv_i2l hx hb dcX8_addCircles_65 rfl ?_
            refine lv_lsub hx hb dcX8_addCircles_66 ?_
            obtain ⟨v4, z3, hcq, hq⟩ := tw_cl1 hq
            refine uw_cali hU hM (va_runS (As := [.long ((x3.toInt64 - x5.toInt64) + ((2 * x6).toInt64)), .long (x4.toInt64 - x5.toInt64)]) (rest := []) ⟨hx, hb, hml, hown, hts⟩ (kc_X8_twoIndex l D q vl u hU.1 K ((x3.toInt64 - x5.toInt64) + ((2 * x6).toInt64)) (x4.toInt64 - x5.toInt64) z z3 v4 hcq) (va_cwS 2 hts (tw_gS wC_good xq_632 xq_633 xq_609 xq_634) rfl rfl rfl cdd_X8_twoIndex ⟨(Nat.le_of_ble_eq_true rfl), (Nat.le_of_ble_eq_true rfl)⟩) (cw_preS hK hM) rfl rfl hl.1 rfl (lv_room (Nat.le_of_ble_eq_true rfl)) dcX8_addCircles_67 ⟨(Nat.le_of_ble_eq_true rfl), (Nat.le_of_ble_eq_true rfl)⟩) (fun H locs hM => ?_)
            refine lv_istore (lv' := [(7, .int v4), (0, .ref (u r0)), (1, .int x1), (2, .int x2), (3, .int x3), (4, .int x4), (5, .int x5), (6, .int x6)]) hx hb dcX8_addCircles_70 hl (by decide) rfl (fun ls hl => ?_)
            refine lv_iload hx hb dcX8_addCircles_72 (lv_at hl 0 rfl) ?_
            refine lv_iconst (v := (-1)) hx hb dcX8_addCircles_74 (by decide) ?_
            refine lv_icmp_eq (tgt := 113) hx hb dcX8_addCircles_75 (by decide) (fun hc => ?_) (fun hc => ?_)
            · have hq := tw_it hq hc
              exact ih_4 x1 x2 x3 x4 x5 x6 v4 r0 0 0 0 0 z3 H locs ls hr0 hM (lv_sub hl [1, 2, 3, 4, 5, 6, 7, 0] rfl) hq
            · have hq := tw_if hq hc
              refine lv_aload_n hx hb dcX8_addCircles_78 rfl (lv_at hl 1 rfl) ?_
              refine vgX8_30 hx hb hT hown hK hM hr0 dcX8_addCircles_79 ?_
              refine lv_iload hx hb dcX8_addCircles_82 (lv_at hl 0 rfl) ?_
              refine lv_dup2_11 hx hb dcX8_addCircles_84 rfl rfl ?_
              refine uw_iald cX_ok hx hb hK hM (cr_X8_3 hr0) hq dcX8_addCircles_85 (fun v5 hq => ?_)
              refine lv_iload_n hx hb dcX8_addCircles_86 rfl (lv_at hl 3 rfl) ?_
              refine lv_aload_n hx hb dcX8_addCircles_87 rfl (lv_at hl 1 rfl) ?_
              refine vgX8_35 hx hb hT hown hK hM hr0 dcX8_addCircles_88 ?_
              refine lv_iload hx hb dcX8_addCircles_91 (lv_at hl 6 rfl) ?_
              refine ca_X8_4 hx hb hK hM hr0 hq dcX8_addCircles_93 (fun j6 hj6 hq => ?_)
              refine lv_iload hx hb dcX8_addCircles_94 (lv_at hl 7 rfl) ?_
              refine uw_iald cX_ok hx hb hK hM (cg_X8_4 hr0 hj6) hq dcX8_addCircles_96 (fun v7 hq => ?_)
              refine lv_imul hx hb dcX8_addCircles_97 ?_
              refine lv_iload hx hb dcX8_addCircles_98 (lv_at hl 7 rfl) ?_
              refine lv_iconst (v := 1) hx hb dcX8_addCircles_100 (by decide) ?_
              refine lv_iand hx hb dcX8_addCircles_101 ?_
              refine lv_if_ne (tgt := 109) hx hb dcX8_addCircles_102 (by decide) (fun hc => ?_) (fun hc => ?_)
              · have hq := tw_if hq hc
                refine lv_iconst (v := (-1)) hx hb dcX8_addCircles_109 (by decide) ?_
                exact ih_3 x1 x2 x3 x4 x5 x6 v4 r0 (-1) (x2 * v7) v5 v4 z3 H locs ls hr0 hM (lv_sub hl [1, 2, 3, 4, 5, 6, 7, 0] rfl) hq
              · have hq := tw_it hq hc
                refine lv_iconst (v := 1) hx hb dcX8_addCircles_105 (by decide) ?_
                refine lv_goto (tgt := 110) hx hb dcX8_addCircles_106 (by decide) ?_
                exact ih_3 x1 x2 x3 x4 x5 x6 v4 r0 1 (x2 * v7) v5 v4 z3 H locs ls hr0 hM (lv_sub hl [1, 2, 3, 4, 5, 6, 7, 0] rfl) hq
      · intro x1 x2 x3 x4 x5 x6 x7 r0 t0 t1 t2 t3 z H locs ls hr0 hM hl hq
        have hq : cm_X8_addCircles_3 vl K (c_X8_addCircles vl K k) x1 x2 x3 x4 x5 x6 x7 r0 t0 t1 t2 t3 z = some z1 := hq
        unfold cm_X8_addCircles_3 at hq
        refine lv_imul hx hb dcX8_addCircles_110 ?_
        refine lv_iadd hx hb dcX8_addCircles_111 ?_
        refine uw_iast cX_ok hU hx hb hK hM (cr_X8_3 hr0) hq dcX8_addCircles_112 (fun z8 H locs hM hq => ?_)
        exact ih_4 x1 x2 x3 x4 x5 x6 x7 r0 0 0 0 0 z8 H locs ls hr0 hM (lv_sub hl [0, 1, 2, 3, 4, 5, 6, 7] rfl) hq
      · intro x1 x2 x3 x4 x5 x6 x7 r0 t0 t1 t2 t3 z H locs ls hr0 hM hl hq
        have hq : cm_X8_addCircles_4 vl K (c_X8_addCircles vl K k) x1 x2 x3 x4 x5 x6 x7 r0 t0 t1 t2 t3 z = some z1 := hq
        unfold cm_X8_addCircles_4 at hq
        refine lv_iinc (v := (x6 + 1)) (lv' := [(6, .int (x6 + 1)), (0, .ref (u r0)), (1, .int x1), (2, .int x2), (3, .int x3), (4, .int x4), (5, .int x5), (7, .int x7)]) hx hb dcX8_addCircles_113 hl (k := 6) rfl rfl (by decide) rfl (fun ls hl => ?_)
        refine lv_goto (tgt := 34) hx hb dcX8_addCircles_116 (by decide) ?_
        exact ih_2 x1 x2 x3 x4 x5 (x6 + 1) 0 r0 0 0 0 0 z H locs ls hr0 hM (lv_sub hl [1, 2, 3, 4, 5, 6, 0] rfl) hq
  exact (key K).1 x1 x2 x3 x4 0 0 0 r0 0 0 0 0 z s.heap [] ls hr0 hM (lv_sub hl [0, 1, 2, 3, 4] rfl) hq
theorem dcX8_unfold_0 : decode cX8_unfold 0 = .ok (.aload_n 0, 1) := dw_at cX8_unfold_k0 (p := 0) rfl (by decide +kernel)
theorem dcX8_unfold_1 : decode cX8_unfold 1 = .ok (.getfield 22, 3) := dw_at cX8_unfold_k0 (p := 1) rfl (by decide +kernel)
theorem dcX8_unfold_4 : decode cX8_unfold 4 = .ok (.iload_n 1, 1) := dw_at cX8_unfold_k0 (p := 4) rfl (by decide +kernel)
theorem dcX8_unfold_5 : decode cX8_unfold 5 = .ok (.aaload, 1) := dw_at cX8_unfold_k0 (p := 5) rfl (by decide +kernel)
theorem dcX8_unfold_6 : decode cX8_unfold 6 = .ok (.astore 5, 2) := dw_at cX8_unfold_k0 (p := 6) rfl (by decide +kernel)
theorem dcX8_unfold_8 : decode cX8_unfold 8 = .ok (.iconst 2, 1) := dw_at cX8_unfold_k0 (p := 8) rfl (by decide +kernel)
theorem dcX8_unfold_9 : decode cX8_unfold 9 = .ok (.aload 5, 2) := dw_at cX8_unfold_k0 (p := 9) rfl (by decide +kernel)
theorem dcX8_unfold_11 : decode cX8_unfold 11 = .ok (.getfield 79, 3) := dw_at cX8_unfold_k0 (p := 11) rfl (by decide +kernel)
theorem dcX8_unfold_14 : decode cX8_unfold 14 = .ok (.imul, 1) := dw_at cX8_unfold_k0 (p := 14) rfl (by decide +kernel)
theorem dcX8_unfold_15 : decode cX8_unfold 15 = .ok (.istore 6, 2) := dw_at cX8_unfold_k0 (p := 15) rfl (by decide +kernel)
theorem dcX8_unfold_17 : decode cX8_unfold 17 = .ok (.iload_n 3, 1) := dw_at cX8_unfold_k0 (p := 17) rfl (by decide +kernel)
theorem dcX8_unfold_18 : decode cX8_unfold 18 = .ok (.istore 7, 2) := dw_at cX8_unfold_k0 (p := 18) rfl (by decide +kernel)
theorem dcX8_unfold_20 : decode cX8_unfold 20 = .ok (.iconst 0, 1) := dw_at cX8_unfold_k0 (p := 20) rfl (by decide +kernel)
theorem dcX8_unfold_21 : decode cX8_unfold 21 = .ok (.istore 8, 2) := dw_at cX8_unfold_k0 (p := 21) rfl (by decide +kernel)
theorem dcX8_unfold_23 : decode cX8_unfold 23 = .ok (.iconst 0, 1) := dw_at cX8_unfold_k0 (p := 23) rfl (by decide +kernel)
theorem dcX8_unfold_24 : decode cX8_unfold 24 = .ok (.istore 9, 2) := dw_at cX8_unfold_k1 (p := 0) rfl (by decide +kernel)
theorem dcX8_unfold_26 : decode cX8_unfold 26 = .ok (.iconst 0, 1) := dw_at cX8_unfold_k1 (p := 2) rfl (by decide +kernel)
theorem dcX8_unfold_27 : decode cX8_unfold 27 = .ok (.istore 10, 2) := dw_at cX8_unfold_k1 (p := 3) rfl (by decide +kernel)
theorem dcX8_unfold_29 : decode cX8_unfold 29 = .ok (.iconst 0, 1) := dw_at cX8_unfold_k1 (p := 5) rfl (by decide +kernel)
theorem dcX8_unfold_30 : decode cX8_unfold 30 = .ok (.istore 11, 2) := dw_at cX8_unfold_k1 (p := 6) rfl (by decide +kernel)
theorem dcX8_unfold_32 : decode cX8_unfold 32 = .ok (.iload 11, 2) := dw_at cX8_unfold_k1 (p := 8) rfl (by decide +kernel)
theorem dcX8_unfold_34 : decode cX8_unfold 34 = .ok (.iload 6, 2) := dw_at cX8_unfold_k1 (p := 10) rfl (by decide +kernel)
theorem dcX8_unfold_36 : decode cX8_unfold 36 = .ok (.if_icmp .ge 196, 3) := dw_at cX8_unfold_k1 (p := 12) rfl (by decide +kernel)
theorem dcX8_unfold_39 : decode cX8_unfold 39 = .ok (.iload 9, 2) := dw_at cX8_unfold_k1 (p := 15) rfl (by decide +kernel)
theorem dcX8_unfold_41 : decode cX8_unfold 41 = .ok (.iload 11, 2) := dw_at cX8_unfold_k1 (p := 17) rfl (by decide +kernel)
theorem dcX8_unfold_43 : decode cX8_unfold 43 = .ok (.ishr, 1) := dw_at cX8_unfold_k1 (p := 19) rfl (by decide +kernel)
theorem dcX8_unfold_44 : decode cX8_unfold 44 = .ok (.iconst 1, 1) := dw_at cX8_unfold_k1 (p := 20) rfl (by decide +kernel)
theorem dcX8_unfold_45 : decode cX8_unfold 45 = .ok (.iand, 1) := dw_at cX8_unfold_k1 (p := 21) rfl (by decide +kernel)
theorem dcX8_unfold_46 : decode cX8_unfold 46 = .ok (.ifCond .eq 6, 3) := dw_at cX8_unfold_k1 (p := 22) rfl (by decide +kernel)
theorem dcX8_unfold_49 : decode cX8_unfold 49 = .ok (.goto 177, 3) := dw_at cX8_unfold_k2 (p := 0) rfl (by decide +kernel)
theorem dcX8_unfold_52 : decode cX8_unfold 52 = .ok (.iinc 10 1, 3) := dw_at cX8_unfold_k2 (p := 3) rfl (by decide +kernel)
theorem dcX8_unfold_55 : decode cX8_unfold 55 = .ok (.iload 11, 2) := dw_at cX8_unfold_k2 (p := 6) rfl (by decide +kernel)
theorem dcX8_unfold_57 : decode cX8_unfold 57 = .ok (.istore 12, 2) := dw_at cX8_unfold_k2 (p := 8) rfl (by decide +kernel)
theorem dcX8_unfold_59 : decode cX8_unfold 59 = .ok (.iconst 0, 1) := dw_at cX8_unfold_k2 (p := 10) rfl (by decide +kernel)
theorem dcX8_unfold_60 : decode cX8_unfold 60 = .ok (.istore 13, 2) := dw_at cX8_unfold_k2 (p := 11) rfl (by decide +kernel)
theorem dcX8_unfold_62 : decode cX8_unfold 62 = .ok (.iload 13, 2) := dw_at cX8_unfold_k2 (p := 13) rfl (by decide +kernel)
theorem dcX8_unfold_64 : decode cX8_unfold 64 = .ok (.iload 6, 2) := dw_at cX8_unfold_k2 (p := 15) rfl (by decide +kernel)
theorem dcX8_unfold_66 : decode cX8_unfold 66 = .ok (.if_icmp .ge 160, 3) := dw_at cX8_unfold_k2 (p := 17) rfl (by decide +kernel)
theorem dcX8_unfold_69 : decode cX8_unfold 69 = .ok (.iload 9, 2) := dw_at cX8_unfold_k2 (p := 20) rfl (by decide +kernel)
theorem dcX8_unfold_71 : decode cX8_unfold 71 = .ok (.iload 12, 2) := dw_at cX8_unfold_k2 (p := 22) rfl (by decide +kernel)
theorem dcX8_unfold_73 : decode cX8_unfold 73 = .ok (.ishr, 1) := dw_at cX8_unfold_k3 (p := 0) rfl (by decide +kernel)
theorem dcX8_unfold_74 : decode cX8_unfold 74 = .ok (.iconst 1, 1) := dw_at cX8_unfold_k3 (p := 1) rfl (by decide +kernel)
theorem dcX8_unfold_75 : decode cX8_unfold 75 = .ok (.iand, 1) := dw_at cX8_unfold_k3 (p := 2) rfl (by decide +kernel)
theorem dcX8_unfold_76 : decode cX8_unfold 76 = .ok (.ifCond .ne 150, 3) := dw_at cX8_unfold_k3 (p := 3) rfl (by decide +kernel)
theorem dcX8_unfold_79 : decode cX8_unfold 79 = .ok (.iload 12, 2) := dw_at cX8_unfold_k3 (p := 6) rfl (by decide +kernel)
theorem dcX8_unfold_81 : decode cX8_unfold 81 = .ok (.iconst 1, 1) := dw_at cX8_unfold_k3 (p := 8) rfl (by decide +kernel)
theorem dcX8_unfold_82 : decode cX8_unfold 82 = .ok (.ishr, 1) := dw_at cX8_unfold_k3 (p := 9) rfl (by decide +kernel)
theorem dcX8_unfold_83 : decode cX8_unfold 83 = .ok (.istore 14, 2) := dw_at cX8_unfold_k3 (p := 10) rfl (by decide +kernel)
theorem dcX8_unfold_85 : decode cX8_unfold 85 = .ok (.iload 8, 2) := dw_at cX8_unfold_k3 (p := 12) rfl (by decide +kernel)
theorem dcX8_unfold_87 : decode cX8_unfold 87 = .ok (.iload 14, 2) := dw_at cX8_unfold_k3 (p := 14) rfl (by decide +kernel)
theorem dcX8_unfold_89 : decode cX8_unfold 89 = .ok (.ishr, 1) := dw_at cX8_unfold_k3 (p := 16) rfl (by decide +kernel)
theorem dcX8_unfold_90 : decode cX8_unfold 90 = .ok (.iconst 1, 1) := dw_at cX8_unfold_k3 (p := 17) rfl (by decide +kernel)
theorem dcX8_unfold_91 : decode cX8_unfold 91 = .ok (.iand, 1) := dw_at cX8_unfold_k3 (p := 18) rfl (by decide +kernel)
theorem dcX8_unfold_92 : decode cX8_unfold 92 = .ok (.ifCond .ne 100, 3) := dw_at cX8_unfold_k3 (p := 19) rfl (by decide +kernel)
theorem dcX8_unfold_95 : decode cX8_unfold 95 = .ok (.iload 12, 2) := dw_at cX8_unfold_k3 (p := 22) rfl (by decide +kernel)
theorem dcX8_unfold_97 : decode cX8_unfold 97 = .ok (.iconst 1, 1) := dw_at cX8_unfold_k4 (p := 0) rfl (by decide +kernel)
theorem dcX8_unfold_98 : decode cX8_unfold 98 = .ok (.iand, 1) := dw_at cX8_unfold_k4 (p := 1) rfl (by decide +kernel)
theorem dcX8_unfold_99 : decode cX8_unfold 99 = .ok (.iconst 1, 1) := dw_at cX8_unfold_k4 (p := 2) rfl (by decide +kernel)
theorem dcX8_unfold_100 : decode cX8_unfold 100 = .ok (.if_icmp .ne 92, 3) := dw_at cX8_unfold_k4 (p := 3) rfl (by decide +kernel)
theorem dcX8_unfold_103 : decode cX8_unfold 103 = .ok (.aload 5, 2) := dw_at cX8_unfold_k4 (p := 6) rfl (by decide +kernel)
theorem dcX8_unfold_105 : decode cX8_unfold 105 = .ok (.getfield 83, 3) := dw_at cX8_unfold_k4 (p := 8) rfl (by decide +kernel)
theorem dcX8_unfold_108 : decode cX8_unfold 108 = .ok (.iload 14, 2) := dw_at cX8_unfold_k4 (p := 11) rfl (by decide +kernel)
theorem dcX8_unfold_110 : decode cX8_unfold 110 = .ok (.iaload, 1) := dw_at cX8_unfold_k4 (p := 13) rfl (by decide +kernel)
theorem dcX8_unfold_111 : decode cX8_unfold 111 = .ok (.istore 15, 2) := dw_at cX8_unfold_k4 (p := 14) rfl (by decide +kernel)
theorem dcX8_unfold_113 : decode cX8_unfold 113 = .ok (.iload_n 1, 1) := dw_at cX8_unfold_k4 (p := 16) rfl (by decide +kernel)
theorem dcX8_unfold_114 : decode cX8_unfold 114 = .ok (.iconst 1, 1) := dw_at cX8_unfold_k4 (p := 17) rfl (by decide +kernel)
theorem dcX8_unfold_115 : decode cX8_unfold 115 = .ok (.iadd, 1) := dw_at cX8_unfold_k4 (p := 18) rfl (by decide +kernel)
theorem dcX8_unfold_116 : decode cX8_unfold 116 = .ok (.aload_n 0, 1) := dw_at cX8_unfold_k4 (p := 19) rfl (by decide +kernel)
theorem dcX8_unfold_117 : decode cX8_unfold 117 = .ok (.getfield 22, 3) := dw_at cX8_unfold_k4 (p := 20) rfl (by decide +kernel)
theorem dcX8_unfold_120 : decode cX8_unfold 120 = .ok (.arraylength, 1) := dw_at cX8_unfold_k4 (p := 23) rfl (by decide +kernel)
theorem dcX8_unfold_121 : decode cX8_unfold 121 = .ok (.if_icmp .ge 49, 3) := dw_at cX8_unfold_k5 (p := 0) rfl (by decide +kernel)
theorem dcX8_unfold_124 : decode cX8_unfold 124 = .ok (.aload_n 0, 1) := dw_at cX8_unfold_k5 (p := 3) rfl (by decide +kernel)
theorem dcX8_unfold_125 : decode cX8_unfold 125 = .ok (.getfield 22, 3) := dw_at cX8_unfold_k5 (p := 4) rfl (by decide +kernel)
theorem dcX8_unfold_128 : decode cX8_unfold 128 = .ok (.iload_n 1, 1) := dw_at cX8_unfold_k5 (p := 7) rfl (by decide +kernel)
theorem dcX8_unfold_129 : decode cX8_unfold 129 = .ok (.iconst 1, 1) := dw_at cX8_unfold_k5 (p := 8) rfl (by decide +kernel)
theorem dcX8_unfold_130 : decode cX8_unfold 130 = .ok (.iadd, 1) := dw_at cX8_unfold_k5 (p := 9) rfl (by decide +kernel)
theorem dcX8_unfold_131 : decode cX8_unfold 131 = .ok (.aaload, 1) := dw_at cX8_unfold_k5 (p := 10) rfl (by decide +kernel)
theorem dcX8_unfold_132 : decode cX8_unfold 132 = .ok (.aload 5, 2) := dw_at cX8_unfold_k5 (p := 11) rfl (by decide +kernel)
theorem dcX8_unfold_134 : decode cX8_unfold 134 = .ok (.invokevirtual 86, 3) := dw_at cX8_unfold_k5 (p := 13) rfl (by decide +kernel)
theorem dcX8_unfold_137 : decode cX8_unfold 137 = .ok (.aload_n 0, 1) := dw_at cX8_unfold_k5 (p := 16) rfl (by decide +kernel)
theorem dcX8_unfold_138 : decode cX8_unfold 138 = .ok (.getfield 22, 3) := dw_at cX8_unfold_k5 (p := 17) rfl (by decide +kernel)
theorem dcX8_unfold_141 : decode cX8_unfold 141 = .ok (.iload_n 1, 1) := dw_at cX8_unfold_k5 (p := 20) rfl (by decide +kernel)
theorem dcX8_unfold_142 : decode cX8_unfold 142 = .ok (.iconst 1, 1) := dw_at cX8_unfold_k5 (p := 21) rfl (by decide +kernel)
theorem dcX8_unfold_143 : decode cX8_unfold 143 = .ok (.iadd, 1) := dw_at cX8_unfold_k5 (p := 22) rfl (by decide +kernel)
theorem dcX8_unfold_144 : decode cX8_unfold 144 = .ok (.aaload, 1) := dw_at cX8_unfold_k5 (p := 23) rfl (by decide +kernel)
theorem dcX8_unfold_145 : decode cX8_unfold 145 = .ok (.iload 14, 2) := dw_at cX8_unfold_k6 (p := 0) rfl (by decide +kernel)
theorem dcX8_unfold_147 : decode cX8_unfold 147 = .ok (.invokevirtual 90, 3) := dw_at cX8_unfold_k6 (p := 2) rfl (by decide +kernel)
theorem dcX8_unfold_150 : decode cX8_unfold 150 = .ok (.aload_n 0, 1) := dw_at cX8_unfold_k6 (p := 5) rfl (by decide +kernel)
theorem dcX8_unfold_151 : decode cX8_unfold 151 = .ok (.iload_n 1, 1) := dw_at cX8_unfold_k6 (p := 6) rfl (by decide +kernel)
theorem dcX8_unfold_152 : decode cX8_unfold 152 = .ok (.iconst 1, 1) := dw_at cX8_unfold_k6 (p := 7) rfl (by decide +kernel)
theorem dcX8_unfold_153 : decode cX8_unfold 153 = .ok (.iadd, 1) := dw_at cX8_unfold_k6 (p := 8) rfl (by decide +kernel)
theorem dcX8_unfold_154 : decode cX8_unfold 154 = .ok (.iload_n 2, 1) := dw_at cX8_unfold_k6 (p := 9) rfl (by decide +kernel)
theorem dcX8_unfold_155 : decode cX8_unfold 155 = .ok (.iload 15, 2) := dw_at cX8_unfold_k6 (p := 10) rfl (by decide +kernel)
theorem dcX8_unfold_157 : decode cX8_unfold 157 = .ok (.imul, 1) := dw_at cX8_unfold_k6 (p := 12) rfl (by decide +kernel)
theorem dcX8_unfold_158 : decode cX8_unfold 158 = .ok (.iload 7, 2) := dw_at cX8_unfold_k6 (p := 13) rfl (by decide +kernel)
theorem dcX8_unfold_160 : decode cX8_unfold 160 = .ok (.iload 15, 2) := dw_at cX8_unfold_k6 (p := 15) rfl (by decide +kernel)
theorem dcX8_unfold_162 : decode cX8_unfold 162 = .ok (.iadd, 1) := dw_at cX8_unfold_k6 (p := 17) rfl (by decide +kernel)
theorem dcX8_unfold_163 : decode cX8_unfold 163 = .ok (.iload 4, 2) := dw_at cX8_unfold_k6 (p := 18) rfl (by decide +kernel)
theorem dcX8_unfold_165 : decode cX8_unfold 165 = .ok (.iconst 1, 1) := dw_at cX8_unfold_k6 (p := 20) rfl (by decide +kernel)
theorem dcX8_unfold_166 : decode cX8_unfold 166 = .ok (.iadd, 1) := dw_at cX8_unfold_k6 (p := 21) rfl (by decide +kernel)
theorem dcX8_unfold_167 : decode cX8_unfold 167 = .ok (.invokevirtual 75, 3) := dw_at cX8_unfold_k6 (p := 22) rfl (by decide +kernel)
theorem dcX8_unfold_170 : decode cX8_unfold 170 = .ok (.aload 5, 2) := dw_at cX8_unfold_k7 (p := 0) rfl (by decide +kernel)
theorem dcX8_unfold_172 : decode cX8_unfold 172 = .ok (.iload 14, 2) := dw_at cX8_unfold_k7 (p := 2) rfl (by decide +kernel)
theorem dcX8_unfold_174 : decode cX8_unfold 174 = .ok (.invokevirtual 93, 3) := dw_at cX8_unfold_k7 (p := 4) rfl (by decide +kernel)
theorem dcX8_unfold_177 : decode cX8_unfold 177 = .ok (.iload 7, 2) := dw_at cX8_unfold_k7 (p := 7) rfl (by decide +kernel)
theorem dcX8_unfold_179 : decode cX8_unfold 179 = .ok (.iconst 2, 1) := dw_at cX8_unfold_k7 (p := 9) rfl (by decide +kernel)
theorem dcX8_unfold_180 : decode cX8_unfold 180 = .ok (.iload 15, 2) := dw_at cX8_unfold_k7 (p := 10) rfl (by decide +kernel)
theorem dcX8_unfold_182 : decode cX8_unfold 182 = .ok (.imul, 1) := dw_at cX8_unfold_k7 (p := 12) rfl (by decide +kernel)
theorem dcX8_unfold_183 : decode cX8_unfold 183 = .ok (.iadd, 1) := dw_at cX8_unfold_k7 (p := 13) rfl (by decide +kernel)
theorem dcX8_unfold_184 : decode cX8_unfold 184 = .ok (.istore 7, 2) := dw_at cX8_unfold_k7 (p := 14) rfl (by decide +kernel)
theorem dcX8_unfold_186 : decode cX8_unfold 186 = .ok (.iload 12, 2) := dw_at cX8_unfold_k7 (p := 16) rfl (by decide +kernel)
theorem dcX8_unfold_188 : decode cX8_unfold 188 = .ok (.iconst 1, 1) := dw_at cX8_unfold_k7 (p := 18) rfl (by decide +kernel)
theorem dcX8_unfold_189 : decode cX8_unfold 189 = .ok (.ixor, 1) := dw_at cX8_unfold_k7 (p := 19) rfl (by decide +kernel)
theorem dcX8_unfold_190 : decode cX8_unfold 190 = .ok (.istore 12, 2) := dw_at cX8_unfold_k7 (p := 20) rfl (by decide +kernel)
theorem dcX8_unfold_192 : decode cX8_unfold 192 = .ok (.iload 8, 2) := dw_at cX8_unfold_k7 (p := 22) rfl (by decide +kernel)
theorem dcX8_unfold_194 : decode cX8_unfold 194 = .ok (.iconst 1, 1) := dw_at cX8_unfold_k8 (p := 0) rfl (by decide +kernel)
theorem dcX8_unfold_195 : decode cX8_unfold 195 = .ok (.iload 14, 2) := dw_at cX8_unfold_k8 (p := 1) rfl (by decide +kernel)
theorem dcX8_unfold_197 : decode cX8_unfold 197 = .ok (.ishl, 1) := dw_at cX8_unfold_k8 (p := 3) rfl (by decide +kernel)
theorem dcX8_unfold_198 : decode cX8_unfold 198 = .ok (.ior, 1) := dw_at cX8_unfold_k8 (p := 4) rfl (by decide +kernel)
theorem dcX8_unfold_199 : decode cX8_unfold 199 = .ok (.istore 8, 2) := dw_at cX8_unfold_k8 (p := 5) rfl (by decide +kernel)
theorem dcX8_unfold_201 : decode cX8_unfold 201 = .ok (.iload 9, 2) := dw_at cX8_unfold_k8 (p := 7) rfl (by decide +kernel)
theorem dcX8_unfold_203 : decode cX8_unfold 203 = .ok (.iconst 1, 1) := dw_at cX8_unfold_k8 (p := 9) rfl (by decide +kernel)
theorem dcX8_unfold_204 : decode cX8_unfold 204 = .ok (.iload 12, 2) := dw_at cX8_unfold_k8 (p := 10) rfl (by decide +kernel)
theorem dcX8_unfold_206 : decode cX8_unfold 206 = .ok (.ishl, 1) := dw_at cX8_unfold_k8 (p := 12) rfl (by decide +kernel)
theorem dcX8_unfold_207 : decode cX8_unfold 207 = .ok (.ior, 1) := dw_at cX8_unfold_k8 (p := 13) rfl (by decide +kernel)
theorem dcX8_unfold_208 : decode cX8_unfold 208 = .ok (.istore 9, 2) := dw_at cX8_unfold_k8 (p := 14) rfl (by decide +kernel)
theorem dcX8_unfold_210 : decode cX8_unfold 210 = .ok (.aload 5, 2) := dw_at cX8_unfold_k8 (p := 16) rfl (by decide +kernel)
theorem dcX8_unfold_212 : decode cX8_unfold 212 = .ok (.getfield 96, 3) := dw_at cX8_unfold_k8 (p := 18) rfl (by decide +kernel)
theorem dcX8_unfold_215 : decode cX8_unfold 215 = .ok (.iload 12, 2) := dw_at cX8_unfold_k8 (p := 21) rfl (by decide +kernel)
theorem dcX8_unfold_217 : decode cX8_unfold 217 = .ok (.iaload, 1) := dw_at cX8_unfold_k8 (p := 23) rfl (by decide +kernel)
theorem dcX8_unfold_218 : decode cX8_unfold 218 = .ok (.istore 12, 2) := dw_at cX8_unfold_k9 (p := 0) rfl (by decide +kernel)
theorem dcX8_unfold_220 : decode cX8_unfold 220 = .ok (.iinc 13 1, 3) := dw_at cX8_unfold_k9 (p := 2) rfl (by decide +kernel)
theorem dcX8_unfold_223 : decode cX8_unfold 223 = .ok (.goto (-161), 3) := dw_at cX8_unfold_k9 (p := 5) rfl (by decide +kernel)
theorem dcX8_unfold_226 : decode cX8_unfold 226 = .ok (.iinc 11 1, 3) := dw_at cX8_unfold_k9 (p := 8) rfl (by decide +kernel)
theorem dcX8_unfold_229 : decode cX8_unfold 229 = .ok (.goto (-197), 3) := dw_at cX8_unfold_k9 (p := 11) rfl (by decide +kernel)
theorem dcX8_unfold_232 : decode cX8_unfold 232 = .ok (.aload_n 0, 1) := dw_at cX8_unfold_k9 (p := 14) rfl (by decide +kernel)
theorem dcX8_unfold_233 : decode cX8_unfold 233 = .ok (.iload 10, 2) := dw_at cX8_unfold_k9 (p := 15) rfl (by decide +kernel)
theorem dcX8_unfold_235 : decode cX8_unfold 235 = .ok (.aload 5, 2) := dw_at cX8_unfold_k9 (p := 17) rfl (by decide +kernel)
theorem dcX8_unfold_237 : decode cX8_unfold 237 = .ok (.getfield 99, 3) := dw_at cX8_unfold_k9 (p := 19) rfl (by decide +kernel)
theorem dcX8_unfold_240 : decode cX8_unfold 240 = .ok (.iadd, 1) := dw_at cX8_unfold_k9 (p := 22) rfl (by decide +kernel)
theorem dcX8_unfold_241 : decode cX8_unfold 241 = .ok (.iload_n 2, 1) := dw_at cX8_unfold_k9 (p := 23) rfl (by decide +kernel)
theorem dcX8_unfold_242 : decode cX8_unfold 242 = .ok (.iload 7, 2) := dw_at cX8_unfold_k10 (p := 0) rfl (by decide +kernel)
theorem dcX8_unfold_244 : decode cX8_unfold 244 = .ok (.iload 4, 2) := dw_at cX8_unfold_k10 (p := 2) rfl (by decide +kernel)
theorem dcX8_unfold_246 : decode cX8_unfold 246 = .ok (.invokevirtual 102, 3) := dw_at cX8_unfold_k10 (p := 4) rfl (by decide +kernel)
theorem dcX8_unfold_249 : decode cX8_unfold 249 = .ok (.return_, 1) := dw_at cX8_unfold_k10 (p := 7) rfl (by decide +kernel)
def cm_X8_unfold_0 (vl : Nat → Nat) (K : Nat) (self : Nat → Int32 → Int32 → Int32 → Int32 → ow_MS → Option ow_MS) (go : Nat → Int32 → Int32 → Int32 → Int32 → Int32 → Int32 → Int32 → Int32 → Int32 → Int32 → Int32 → Int32 → Int32 → Int32 → Nat → Nat → ow_MS → Option ow_MS) (x1 : Int32) (x2 : Int32) (x3 : Int32) (x4 : Int32) (x6 : Int32) (x7 : Int32) (x8 : Int32) (x9 : Int32) (x10 : Int32) (x11 : Int32) (x12 : Int32) (x13 : Int32) (x14 : Int32) (x15 : Int32) (r0 : Nat) (r5 : Nat) (z : ow_MS) : Option ow_MS :=
 crX 13 x1 fun j1 => rdF z ((r0 + 2000 + 1000 * j1) + 8) fun v2 => go 1 x1 x2 x3 x4 (2 * v2) x3 0 0 0 0 0 0 0 0 r0 (r0 + 2000 + 1000 * j1) z
def cm_X8_unfold_1 (vl : Nat → Nat) (K : Nat) (self : Nat → Int32 → Int32 → Int32 → Int32 → ow_MS → Option ow_MS) (go : Nat → Int32 → Int32 → Int32 → Int32 → Int32 → Int32 → Int32 → Int32 → Int32 → Int32 → Int32 → Int32 → Int32 → Int32 → Nat → Nat → ow_MS → Option ow_MS) (x1 : Int32) (x2 : Int32) (x3 : Int32) (x4 : Int32) (x6 : Int32) (x7 : Int32) (x8 : Int32) (x9 : Int32) (x10 : Int32) (x11 : Int32) (x12 : Int32) (x13 : Int32) (x14 : Int32) (x15 : Int32) (r0 : Nat) (r5 : Nat) (z : ow_MS) : Option ow_MS :=
 (if x6 ≤ x11 then rdF z (r5 + 9) fun v3 => cs0 (ce_X8_addCircles vl K r0 (x10 + v3) x2 x7 x4 z) fun z4 => some z4
 else (if (((x9 : Int32) >>> ((x11 : Int32) &&& 31)) &&& 1) = 0 then go 2 x1 x2 x3 x4 x6 x7 x8 x9 (x10 + 1) x11 x11 0 0 0 r0 r5 z
 else go 5 x1 x2 x3 x4 x6 x7 x8 x9 x10 x11 0 0 0 0 r0 r5 z))
def cm_X8_unfold_2 (vl : Nat → Nat) (K : Nat) (self : Nat → Int32 → Int32 → Int32 → Int32 → ow_MS → Option ow_MS) (go : Nat → Int32 → Int32 → Int32 → Int32 → Int32 → Int32 → Int32 → Int32 → Int32 → Int32 → Int32 → Int32 → Int32 → Int32 → Nat → Nat → ow_MS → Option ow_MS) (x1 : Int32) (x2 : Int32) (x3 : Int32) (x4 : Int32) (x6 : Int32) (x7 : Int32) (x8 : Int32) (x9 : Int32) (x10 : Int32) (x11 : Int32) (x12 : Int32) (x13 : Int32) (x14 : Int32) (x15 : Int32) (r0 : Nat) (r5 : Nat) (z : ow_MS) : Option ow_MS :=
 (if x6 ≤ x13 then go 5 x1 x2 x3 x4 x6 x7 x8 x9 x10 x11 0 0 0 0 r0 r5 z
 else (if (((x9 : Int32) >>> ((x12 : Int32) &&& 31)) &&& 1) = 0 then (if (((x8 : Int32) >>> ((((x12 : Int32) >>> ((1 : Int32) &&& 31)) : Int32) &&& 31)) &&& 1) = 0 then (if (x12 &&& 1) = 1 then crI (cX vl) z (r5 + 3) ((x12 : Int32) >>> ((1 : Int32) &&& 31)) fun v5 => (if (Int32.ofNat ((cX vl).2 (r0 + 2)).2.1) ≤ (x1 + 1) then go 3 x1 x2 x3 x4 x6 x7 x8 x9 x10 x11 x12 x13 ((x12 : Int32) >>> ((1 : Int32) &&& 31)) v5 r0 r5 z
 else crX 13 (x1 + 1) fun j6 => cs0 (ce_X7_copy vl K (r0 + 2000 + 1000 * j6) r5 z) fun z7 => crX 13 (x1 + 1) fun j8 => cs0 (ce_X7_smoothCrossing vl K (r0 + 2000 + 1000 * j8) ((x12 : Int32) >>> ((1 : Int32) &&& 31)) z7) fun z9 => cs0 (self r0 (x1 + 1) (x2 * v5) (x7 + v5) (x4 + 1) z9) fun z10 => go 3 x1 x2 x3 x4 x6 x7 x8 x9 x10 x11 x12 x13 ((x12 : Int32) >>> ((1 : Int32) &&& 31)) v5 r0 r5 z10)
 else go 4 x1 x2 x3 x4 x6 x7 x8 x9 x10 x11 x12 x13 ((x12 : Int32) >>> ((1 : Int32) &&& 31)) 0 r0 r5 z)
 else go 4 x1 x2 x3 x4 x6 x7 x8 x9 x10 x11 x12 x13 ((x12 : Int32) >>> ((1 : Int32) &&& 31)) 0 r0 r5 z)
 else go 5 x1 x2 x3 x4 x6 x7 x8 x9 x10 x11 0 0 0 0 r0 r5 z))
def cm_X8_unfold_3 (vl : Nat → Nat) (K : Nat) (self : Nat → Int32 → Int32 → Int32 → Int32 → ow_MS → Option ow_MS) (go : Nat → Int32 → Int32 → Int32 → Int32 → Int32 → Int32 → Int32 → Int32 → Int32 → Int32 → Int32 → Int32 → Int32 → Int32 → Nat → Nat → ow_MS → Option ow_MS) (x1 : Int32) (x2 : Int32) (x3 : Int32) (x4 : Int32) (x6 : Int32) (x7 : Int32) (x8 : Int32) (x9 : Int32) (x10 : Int32) (x11 : Int32) (x12 : Int32) (x13 : Int32) (x14 : Int32) (x15 : Int32) (r0 : Nat) (r5 : Nat) (z : ow_MS) : Option ow_MS :=
 cs0 (ce_X7_flipCrossing vl K r5 x14 z) fun z11 => go 4 x1 x2 x3 x4 x6 (x7 + (2 * x15)) x8 x9 x10 x11 (x12 ^^^ 1) x13 x14 0 r0 r5 z11
def cm_X8_unfold_4 (vl : Nat → Nat) (K : Nat) (self : Nat → Int32 → Int32 → Int32 → Int32 → ow_MS → Option ow_MS) (go : Nat → Int32 → Int32 → Int32 → Int32 → Int32 → Int32 → Int32 → Int32 → Int32 → Int32 → Int32 → Int32 → Int32 → Int32 → Nat → Nat → ow_MS → Option ow_MS) (x1 : Int32) (x2 : Int32) (x3 : Int32) (x4 : Int32) (x6 : Int32) (x7 : Int32) (x8 : Int32) (x9 : Int32) (x10 : Int32) (x11 : Int32) (x12 : Int32) (x13 : Int32) (x14 : Int32) (x15 : Int32) (r0 : Nat) (r5 : Nat) (z : ow_MS) : Option ow_MS :=
 crI (cX vl) z (r5 + 1) x12 fun v12 => go 2 x1 x2 x3 x4 x6 x7 (x8 ||| ((1 : Int32) <<< ((x14 : Int32) &&& 31))) (x9 ||| ((1 : Int32) <<< ((x12 : Int32) &&& 31))) x10 x11 v12 (x13 + 1) 0 0 r0 r5 z
def cm_X8_unfold_5 (vl : Nat → Nat) (K : Nat) (self : Nat → Int32 → Int32 → Int32 → Int32 → ow_MS → Option ow_MS) (go : Nat → Int32 → Int32 → Int32 → Int32 → Int32 → Int32 → Int32 → Int32 → Int32 → Int32 → Int32 → Int32 → Int32 → Int32 → Nat → Nat → ow_MS → Option ow_MS) (x1 : Int32) (x2 : Int32) (x3 : Int32) (x4 : Int32) (x6 : Int32) (x7 : Int32) (x8 : Int32) (x9 : Int32) (x10 : Int32) (x11 : Int32) (x12 : Int32) (x13 : Int32) (x14 : Int32) (x15 : Int32) (r0 : Nat) (r5 : Nat) (z : ow_MS) : Option ow_MS :=
 go 1 x1 x2 x3 x4 x6 x7 x8 x9 x10 (x11 + 1) 0 0 0 0 r0 r5 z
def cb_X8_unfold (vl : Nat → Nat) (K : Nat) (self : Nat → Int32 → Int32 → Int32 → Int32 → ow_MS → Option ow_MS) (go : Nat → Int32 → Int32 → Int32 → Int32 → Int32 → Int32 → Int32 → Int32 → Int32 → Int32 → Int32 → Int32 → Int32 → Int32 → Nat → Nat → ow_MS → Option ow_MS) (L : Nat) (x1 : Int32) (x2 : Int32) (x3 : Int32) (x4 : Int32) (x6 : Int32) (x7 : Int32) (x8 : Int32) (x9 : Int32) (x10 : Int32) (x11 : Int32) (x12 : Int32) (x13 : Int32) (x14 : Int32) (x15 : Int32) (r0 : Nat) (r5 : Nat) (z : ow_MS) : Option ow_MS := match L with
  | 0 => cm_X8_unfold_0 vl K self go x1 x2 x3 x4 x6 x7 x8 x9 x10 x11 x12 x13 x14 x15 r0 r5 z
  | 1 => cm_X8_unfold_1 vl K self go x1 x2 x3 x4 x6 x7 x8 x9 x10 x11 x12 x13 x14 x15 r0 r5 z
  | 2 => cm_X8_unfold_2 vl K self go x1 x2 x3 x4 x6 x7 x8 x9 x10 x11 x12 x13 x14 x15 r0 r5 z
  | 3 => cm_X8_unfold_3 vl K self go x1 x2 x3 x4 x6 x7 x8 x9 x10 x11 x12 x13 x14 x15 r0 r5 z
  | 4 => cm_X8_unfold_4 vl K self go x1 x2 x3 x4 x6 x7 x8 x9 x10 x11 x12 x13 x14 x15 r0 r5 z
  | 5 => cm_X8_unfold_5 vl K self go x1 x2 x3 x4 x6 x7 x8 x9 x10 x11 x12 x13 x14 x15 r0 r5 z
  | _ => none
def c_X8_unfold (vl : Nat → Nat) (K : Nat) (self : Nat → Int32 → Int32 → Int32 → Int32 → ow_MS → Option ow_MS) : Nat → Nat → Int32 → Int32 → Int32 → Int32 → Int32 → Int32 → Int32 → Int32 → Int32 → Int32 → Int32 → Int32 → Int32 → Int32 → Nat → Nat → ow_MS → Option ow_MS
  | 0 => fun _ _ _ _ _ _ _ _ _ _ _ _ _ _ _ _ _ _ => none
  | k + 1 => cb_X8_unfold vl K self (c_X8_unfold vl K self k)
def cd0_X8_unfold (vl : Nat → Nat) (K : Nat) : Nat → Nat → Int32 → Int32 → Int32 → Int32 → ow_MS → Option ow_MS
  | 0 => fun _ _ _ _ _ _ => none
  | d + 1 => fun r0 x1 x2 x3 x4 z => c_X8_unfold vl K (cd0_X8_unfold vl K d) K 0 x1 x2 x3 x4 0 0 0 0 0 0 0 0 0 0 r0 0 z
def ce_X8_unfold (vl : Nat → Nat) (K : Nat) (r0 : Nat) (x1 : Int32) (x2 : Int32) (x3 : Int32) (x4 : Int32) (z : ow_MS) : Option ow_MS := cd0_X8_unfold vl K 15 r0 x1 x2 x3 x4 z
abbrev wc_X8_unfold : List Cond := .code yX8_unfold cX8_unfold 16 none :: wC
theorem cdd_X8_unfold : yX8_unfold.cls = RX8 ∧ yX8_unfold.cls ≠ "java/lang/invoke/MethodHandle" ∧ yX8_unfold.cls ≠ "java/lang/invoke/VarHandle" ∧ (parseMethodDescriptor yX8_unfold.desc).map (fun d => d.parameters.length) = some 4 := by decide +kernel
set_option maxHeartbeats 4000000 in
set_option maxRecDepth 100000 in
theorem kcd_X8_unfold (l : Launch) (D : va_G) (q : Nat → ClassId) (vl u : Nat → Nat) (hU0 : tw_inj (cX vl) u) (K : Nat) (d : Nat) : ∀ (r0 : Nat) (x1 : Int32) (x2 : Int32) (x3 : Int32) (x4 : Int32) (hr0 : cw_X8 r0) (z z1 : ow_MS) (_ : cd0_X8_unfold vl K d r0 x1 x2 x3 x4 z = some z1), Met l yX8_unfold wc_X8_unfold ({ frames := 4 + d, cells := 0, slots := 0, locals := 86 + d * 35 } : Room) (va_Pc [.ref (u r0), .int x1, .int x2, .int x3, .int x4] (cw_pre D q vl u z)) (va_Qv (fun (_ : Unit) => True) (fun _ t => va_P D vwCl (uw (cX vl) q u z1) t.heap) (tw_A (cX vl) u)) 0 0 (tw_A (cX vl) u) := by
  induction d with
  | zero =>
    intro r0 x1 x2 x3 x4 hr0 z z1 hq
    exact cw_no hq
  | succ d ihd =>
    intro r0 x1 x2 x3 x4 hr0 z z1 hq
    have hq : c_X8_unfold vl K (cd0_X8_unfold vl K d) K 0 x1 x2 x3 x4 0 0 0 0 0 0 0 0 0 0 r0 0 z = some z1 := hq
    refine Met.ofW (cc := cX8_unfold) (maxL := 16) (ret := none) (by decide) rfl ?_
    intro p e s m args below meth c s₁ B hml hv
    obtain ⟨rfl, hP, hK⟩ := hv
    have hx := B.exec
    have hb := B.bytes
    have hr := B.returns
    have hts := atoms_spec (ws := wc_X8_unfold) B.pre
    have hT : ∀ w ∈ wC, w.before ([.ref (u r0), .int x1, .int x2, .int x3, .int x4] : List Value).toArray s = true := fun w h => hts w (List.mem_cons_of_mem _ h)
    have hown : s.vm.findClass RX8 = some m.cls := findClass_of_methodNamed B.named
    have hlocks := B.notSynchronized
    have hU : uw_inj (cX vl) u (tw_A (cX vl) u) := ⟨hU0, fun h hh => ⟨h, hh, rfl⟩⟩
    have hM : uw_M D vwCl (cX vl) q (tw_A (cX vl) u) s.heap u z s.heap [] := ⟨hP, va_S.rf⟩
    have hl := lv_entry ([.ref (u r0), .int x1, .int x2, .int x3, .int x4]) (n := 16) (Nat.le_of_ble_eq_true rfl)
    rw [lg_entry_eq]
    generalize (lg_sl ([.ref (u r0), .int x1, .int x2, .int x3, .int x4]) ++ List.replicate (16 - (lg_sl ([.ref (u r0), .int x1, .int x2, .int x3, .int x4])).length) Slot.unset).toArray = ls at hl ⊢
    have hl : lv_has ls 16 [(0, .ref (u r0)), (1, .int x1), (2, .int x2), (3, .int x3), (4, .int x4)] := hl
    refine ow_named (fun QQ hQQ => ?_)
    generalize ([.ref (u r0), .int x1, .int x2, .int x3, .int x4] : List Value).toArray = args at hts hT hQQ ⊢
    have key : ∀ k : Nat, (∀ (x1 : Int32) (x2 : Int32) (x3 : Int32) (x4 : Int32) (x6 : Int32) (x7 : Int32) (x8 : Int32) (x9 : Int32) (x10 : Int32) (x11 : Int32) (x12 : Int32) (x13 : Int32) (x14 : Int32) (x15 : Int32) (r0 : Nat) (r5 : Nat) (z : ow_MS) (H : Heap) (locs : List Loc) (ls : Array Slot), cw_X8 r0 → uw_M D vwCl (cX vl) q (tw_A (cX vl) u) s.heap u z H locs → lv_has ls 16 [(0, .ref (u r0)), (1, .int x1), (2, .int x2), (3, .int x3), (4, .int x4)] → c_X8_unfold vl K (cd0_X8_unfold vl K d) k 0 x1 x2 x3 x4 x6 x7 x8 x9 x10 x11 x12 x13 x14 x15 r0 r5 z = some z1 → W p l e ({ frames := 4 + (d + 1), cells := 0, slots := 0, locals := 86 + (d + 1) * 35 } : Room) s m args below meth c H locs 0 0 QQ (F0 m 0 ls [])) ∧ (∀ (x1 : Int32) (x2 : Int32) (x3 : Int32) (x4 : Int32) (x6 : Int32) (x7 : Int32) (x8 : Int32) (x9 : Int32) (x10 : Int32) (x11 : Int32) (x12 : Int32) (x13 : Int32) (x14 : Int32) (x15 : Int32) (r0 : Nat) (r5 : Nat) (z : ow_MS) (H : Heap) (locs : List Loc) (ls : Array Slot), cw_X8 r0 → cw_X7 r5 → uw_M D vwCl (cX vl) q (tw_A (cX vl) u) s.heap u z H locs → lv_has ls 16 [(0, .ref (u r0)), (1, .int x1), (2, .int x2), (3, .int x3), (4, .int x4), (5, .ref (u r5)), (6, .int x6), (7, .int x7), (8, .int x8), (9, .int x9), (10, .int x10), (11, .int x11)] → c_X8_unfold vl K (cd0_X8_unfold vl K d) k 1 x1 x2 x3 x4 x6 x7 x8 x9 x10 x11 x12 x13 x14 x15 r0 r5 z = some z1 → W p l e ({ frames := 4 + (d + 1), cells := 0, slots := 0, locals := 86 + (d + 1) * 35 } : Room) s m args below meth c H locs 0 0 QQ (F0 m 32 ls [])) ∧ (∀ (x1 : Int32) (x2 : Int32) (x3 : Int32) (x4 : Int32) (x6 : Int32) (x7 : Int32) (x8 : Int32) (x9 : Int32) (x10 : Int32) (x11 : Int32) (x12 : Int32) (x13 : Int32) (x14 : Int32) (x15 : Int32) (r0 : Nat) (r5 : Nat) (z : ow_MS) (H : Heap) (locs : List Loc) (ls : Array Slot), cw_X8 r0 → cw_X7 r5 → uw_M D vwCl (cX vl) q (tw_A (cX vl) u) s.heap u z H locs → lv_has ls 16 [(0, .ref (u r0)), (1, .int x1), (2, .int x2), (3, .int x3), (4, .int x4), (5, .ref (u r5)), (6, .int x6), (7, .int x7), (8, .int x8), (9, .int x9), (10, .int x10), (11, .int x11), (12, .int x12), (13, .int x13)] → c_X8_unfold vl K (cd0_X8_unfold vl K d) k 2 x1 x2 x3 x4 x6 x7 x8 x9 x10 x11 x12 x13 x14 x15 r0 r5 z = some z1 → W p l e ({ frames := 4 + (d + 1), cells := 0, slots := 0, locals := 86 + (d + 1) * 35 } : Room) s m args below meth c H locs 0 0 QQ (F0 m 62 ls [])) ∧ (∀ (x1 : Int32) (x2 : Int32) (x3 : Int32) (x4 : Int32) (x6 : Int32) (x7 : Int32) (x8 : Int32) (x9 : Int32) (x10 : Int32) (x11 : Int32) (x12 : Int32) (x13 : Int32) (x14 : Int32) (x15 : Int32) (r0 : Nat) (r5 : Nat) (z : ow_MS) (H : Heap) (locs : List Loc) (ls : Array Slot), cw_X8 r0 → cw_X7 r5 → uw_M D vwCl (cX vl) q (tw_A (cX vl) u) s.heap u z H locs → lv_has ls 16 [(0, .ref (u r0)), (1, .int x1), (2, .int x2), (3, .int x3), (4, .int x4), (5, .ref (u r5)), (6, .int x6), (7, .int x7), (8, .int x8), (9, .int x9), (10, .int x10), (11, .int x11), (12, .int x12), (13, .int x13), (14, .int x14), (15, .int x15)] → c_X8_unfold vl K (cd0_X8_unfold vl K d) k 3 x1 x2 x3 x4 x6 x7 x8 x9 x10 x11 x12 x13 x14 x15 r0 r5 z = some z1 → W p l e ({ frames := 4 + (d + 1), cells := 0, slots := 0, locals := 86 + (d + 1) * 35 } : Room) s m args below meth c H locs 0 0 QQ (F0 m 170 ls [])) ∧ (∀ (x1 : Int32) (x2 : Int32) (x3 : Int32) (x4 : Int32) (x6 : Int32) (x7 : Int32) (x8 : Int32) (x9 : Int32) (x10 : Int32) (x11 : Int32) (x12 : Int32) (x13 : Int32) (x14 : Int32) (x15 : Int32) (r0 : Nat) (r5 : Nat) (z : ow_MS) (H : Heap) (locs : List Loc) (ls : Array Slot), cw_X8 r0 → cw_X7 r5 → uw_M D vwCl (cX vl) q (tw_A (cX vl) u) s.heap u z H locs → lv_has ls 16 [(0, .ref (u r0)), (1, .int x1), (2, .int x2), (3, .int x3), (4, .int x4), (5, .ref (u r5)), (6, .int x6), (7, .int x7), (8, .int x8), (9, .int x9), (10, .int x10), (11, .int x11), (12, .int x12), (13, .int x13), (14, .int x14)] → c_X8_unfold vl K (cd0_X8_unfold vl K d) k 4 x1 x2 x3 x4 x6 x7 x8 x9 x10 x11 x12 x13 x14 x15 r0 r5 z = some z1 → W p l e ({ frames := 4 + (d + 1), cells := 0, slots := 0, locals := 86 + (d + 1) * 35 } : Room) s m args below meth c H locs 0 0 QQ (F0 m 192 ls [])) ∧ (∀ (x1 : Int32) (x2 : Int32) (x3 : Int32) (x4 : Int32) (x6 : Int32) (x7 : Int32) (x8 : Int32) (x9 : Int32) (x10 : Int32) (x11 : Int32) (x12 : Int32) (x13 : Int32) (x14 : Int32) (x15 : Int32) (r0 : Nat) (r5 : Nat) (z : ow_MS) (H : Heap) (locs : List Loc) (ls : Array Slot), cw_X8 r0 → cw_X7 r5 → uw_M D vwCl (cX vl) q (tw_A (cX vl) u) s.heap u z H locs → lv_has ls 16 [(0, .ref (u r0)), (1, .int x1), (2, .int x2), (3, .int x3), (4, .int x4), (5, .ref (u r5)), (6, .int x6), (7, .int x7), (8, .int x8), (9, .int x9), (10, .int x10), (11, .int x11)] → c_X8_unfold vl K (cd0_X8_unfold vl K d) k 5 x1 x2 x3 x4 x6 x7 x8 x9 x10 x11 x12 x13 x14 x15 r0 r5 z = some z1 → W p l e ({ frames := 4 + (d + 1), cells := 0, slots := 0, locals := 86 + (d + 1) * 35 } : Room) s m args below meth c H locs 0 0 QQ (F0 m 226 ls [])) := by
      intro k
      induction k with
      | zero => exact ⟨fun _ _ _ _ _ _ _ _ _ _ _ _ _ _ _ _ _ _ _ _ _ _ _ hq => cw_no hq, fun _ _ _ _ _ _ _ _ _ _ _ _ _ _ _ _ _ _ _ _ _ _ _ _ hq => cw_no hq, fun _ _ _ _ _ _ _ _ _ _ _ _ _ _ _ _ _ _ _ _ _ _ _ _ hq => cw_no hq, fun _ _ _ _ _ _ _ _ _ _ _ _ _ _ _ _ _ _ _ _ _ _ _ _ hq => cw_no hq, fun _ _ _ _ _ _ _ _ _ _ _ _ _ _ _ _ _ _ _ _ _ _ _ _ hq => cw_no hq, fun _ _ _ _ _ _ _ _ _ _ _ _ _ _ _ _ _ _ _ _ _ _ _ _ hq => cw_no hq⟩
      | succ k ih =>
        obtain ⟨ih_0, ih_1, ih_2, ih_3, ih_4, ih_5⟩ := ih
        refine ⟨?_, ?_, ?_, ?_, ?_, ?_⟩
        · intro x1 x2 x3 x4 x6 x7 x8 x9 x10 x11 x12 x13 x14 x15 r0 r5 z H locs ls hr0 hM hl hq
          have hq : cm_X8_unfold_0 vl K (cd0_X8_unfold vl K d) (c_X8_unfold vl K (cd0_X8_unfold vl K d) k) x1 x2 x3 x4 x6 x7 x8 x9 x10 x11 x12 x13 x14 x15 r0 r5 z = some z1 := hq
          unfold cm_X8_unfold_0 at hq
          refine lv_aload_n hx hb dcX8_unfold_0 rfl (lv_at hl 0 rfl) ?_
          refine vgX8_22 hx hb hT hown hK hM hr0 dcX8_unfold_1 ?_
          refine lv_iload_n hx hb dcX8_unfold_4 rfl (lv_at hl 1 rfl) ?_
          refine ca_X8_1 hx hb hK hM hr0 hq dcX8_unfold_5 (fun j1 hj1 hq => ?_)
          refine lv_astore (lv' := [(5, .ref (u (r0 + 2000 + 1000 * j1))), (0, .ref (u r0)), (1, .int x1), (2, .int x2), (3, .int x3), (4, .int x4)]) hx hb dcX8_unfold_6 hl (by decide) rfl (fun ls hl => ?_)
          refine lv_iconst (v := 2) hx hb dcX8_unfold_8 (by decide) ?_
          refine lv_aload hx hb dcX8_unfold_9 (lv_at hl 0 rfl) ?_
          refine vgX8_79 hx hb hT hown hK hM (cg_X8_1 hr0 hj1) hq dcX8_unfold_11 (fun v2 hq => ?_)
          refine lv_imul hx hb dcX8_unfold_14 ?_
          refine lv_istore (lv' := [(6, .int (2 * v2)), (5, .ref (u (r0 + 2000 + 1000 * j1))), (0, .ref (u r0)), (1, .int x1), (2, .int x2), (3, .int x3), (4, .int x4)]) hx hb dcX8_unfold_15 hl (by decide) rfl (fun ls hl => ?_)
          refine lv_iload_n hx hb dcX8_unfold_17 rfl (lv_at hl 5 rfl) ?_
          refine lv_istore (lv' := [(7, .int x3), (6, .int (2 * v2)), (5, .ref (u (r0 + 2000 + 1000 * j1))), (0, .ref (u r0)), (1, .int x1), (2, .int x2), (3, .int x3), (4, .int x4)]) hx hb dcX8_unfold_18 hl (by decide) rfl (fun ls hl => ?_)
          refine lv_iconst (v := 0) hx hb dcX8_unfold_20 (by decide) ?_
          refine lv_istore (lv' := [(8, .int 0), (7, .int x3), (6, .int (2 * v2)), (5, .ref (u (r0 + 2000 + 1000 * j1))), (0, .ref (u r0)), (1, .int x1), (2, .int x2), (3, .int x3), (4, .int x4)]) hx hb dcX8_unfold_21 hl (by decide) rfl (fun ls hl => ?_)
          refine lv_iconst (v := 0) hx hb dcX8_unfold_23 (by decide) ?_
          refine lv_istore (lv' := [(9, .int 0), (8, .int 0), (7, .int x3), (6, .int (2 * v2)), (5, .ref (u (r0 + 2000 + 1000 * j1))), (0, .ref (u r0)), (1, .int x1), (2, .int x2), (3, .int x3), (4, .int x4)]) hx hb dcX8_unfold_24 hl (by decide) rfl (fun ls hl => ?_)
          refine lv_iconst (v := 0) hx hb dcX8_unfold_26 (by decide) ?_
          refine lv_istore (lv' := [(10, .int 0), (9, .int 0), (8, .int 0), (7, .int x3), (6, .int (2 * v2)), (5, .ref (u (r0 + 2000 + 1000 * j1))), (0, .ref (u r0)), (1, .int x1), (2, .int x2), (3, .int x3), (4, .int x4)]) hx hb dcX8_unfold_27 hl (by decide) rfl (fun ls hl => ?_)
          refine lv_iconst (v := 0) hx hb dcX8_unfold_29 (by decide) ?_
          refine lv_istore (lv' := [(11, .int 0), (10, .int 0), (9, .int 0), (8, .int 0), (7, .int x3), (6, .int (2 * v2)), (5, .ref (u (r0 + 2000 + 1000 * j1))), (0, .ref (u r0)), (1, .int x1), (2, .int x2), (3, .int x3), (4, .int x4)]) hx hb dcX8_unfold_30 hl (by decide) rfl (fun ls hl => ?_)
          exact ih_1 x1 x2 x3 x4 (2 * v2) x3 0 0 0 0 0 0 0 0 r0 (r0 + 2000 + 1000 * j1) z H locs ls hr0 (cg_X8_1 hr0 hj1) hM (lv_sub hl [7, 8, 9, 10, 11, 6, 5, 4, 3, 2, 1, 0] rfl) hq
        · intro x1 x2 x3 x4 x6 x7 x8 x9 x10 x11 x12 x13 x14 x15 r0 r5 z H locs ls hr0 hr5 hM hl hq
          have hq : cm_X8_unfold_1 vl K (cd0_X8_unfold vl K d) (c_X8_unfold vl K (cd0_X8_unfold vl K d) k) x1 x2 x3 x4 x6 x7 x8 x9 x10 x11 x12 x13 x14 x15 r0 r5 z = some z1 := hq
          unfold cm_X8_unfold_1 at hq
          refine lv_iload hx hb dcX8_unfold_32 (lv_at hl 11 rfl) ?_
          refine lv_iload hx hb dcX8_unfold_34 (lv_at hl 6 rfl) ?_
          refine lv_icmp_ge (tgt := 232) hx hb dcX8_unfold_36 (by decide) (fun hc => ?_) (fun hc => ?_)
          · have hq := tw_it hq hc
            refine lv_aload_n hx hb dcX8_unfold_232 rfl (lv_at hl 0 rfl) ?_
            refine lv_iload hx hb dcX8_unfold_233 (lv_at hl 10 rfl) ?_
            refine lv_aload hx hb dcX8_unfold_235 (lv_at hl 5 rfl) ?_
            refine vgX8_99 hx hb hT hown hK hM hr5 hq dcX8_unfold_237 (fun v3 hq => ?_)
            refine lv_iadd hx hb dcX8_unfold_240 ?_
            refine lv_iload_n hx hb dcX8_unfold_241 rfl (lv_at hl 2 rfl) ?_
            refine lv_iload hx hb dcX8_unfold_242 (lv_at hl 7 rfl) ?_
            refine lv_iload hx hb dcX8_unfold_244 (lv_at hl 4 rfl) ?_
            obtain ⟨z4, hcq, hq⟩ := tw_cl0 hq
            refine uw_calv hU hM (va_runV (As := [.int (x10 + v3), .int x2, .int x7, .int x4]) (rest := []) ⟨hx, hb, hml, hown, hts⟩ (kc_X8_addCircles l D q vl u hU.1 K r0 (x10 + v3) x2 x7 x4 hr0 z z4 hcq) (cwV 4 hts (tw_gV wC_good xq_627 xq_628 xq_629 xq_609 xq_630) rfl rfl rfl cdd_X8_addCircles ⟨(show (1 + 1 : Nat) ≤ 4 + (d + 1) from by omega), (show (8 + (8 + 11) + 27 : Nat) ≤ 86 + (d + 1) * 35 from by omega)⟩) (cw_preV hK hM (co_X8 hr0) rfl) rfl rfl hl.1 rfl (lv_room (Nat.le_of_ble_eq_true rfl)) dcX8_unfold_246 ⟨(Nat.le_of_ble_eq_true rfl), (Nat.le_of_ble_eq_true rfl)⟩) (fun H locs hM => ?_)
            exact cw_vret hx hb hr hlocks hM hq hQQ dcX8_unfold_249
          · have hq := tw_if hq hc
            refine lv_iload hx hb dcX8_unfold_39 (lv_at hl 9 rfl) ?_
            refine lv_iload hx hb dcX8_unfold_41 (lv_at hl 11 rfl) ?_
            refine lv_ishr hx hb dcX8_unfold_43 ?_
            refine lv_iconst (v := 1) hx hb dcX8_unfold_44 (by decide) ?_
            refine lv_iand hx hb dcX8_unfold_45 ?_
            refine lv_if_eq (tgt := 52) hx hb dcX8_unfold_46 (by decide) (fun hc => ?_) (fun hc => ?_)
            · have hq := tw_it hq hc
              refine lv_iinc (v := (x10 + 1)) (lv' := [(10, .int (x10 + 1)), (0, .ref (u r0)), (1, .int x1), (2, .int x2), (3, .int x3), (4, .int x4), (5, .ref (u r5)), (6, .int x6), (7, .int x7), (8, .int x8), (9, .int x9), (11, .int x11)]) hx hb dcX8_unfold_52 hl (k := 10) rfl rfl (by decide) rfl (fun ls hl => ?_)
              refine lv_iload hx hb dcX8_unfold_55 (lv_at hl 11 rfl) ?_
              refine lv_istore (lv' := [(12, .int x11), (10, .int (x10 + 1)), (0, .ref (u r0)), (1, .int x1), (2, .int x2), (3, .int x3), (4, .int x4), (5, .ref (u r5)), (6, .int x6), (7, .int x7), (8, .int x8), (9, .int x9), (11, .int x11)]) hx hb dcX8_unfold_57 hl (by decide) rfl (fun ls hl => ?_)
              refine lv_iconst (v := 0) hx hb dcX8_unfold_59 (by decide) ?_
              refine lv_istore (lv' := [(13, .int 0), (12, .int x11), (10, .int (x10 + 1)), (0, .ref (u r0)), (1, .int x1), (2, .int x2), (3, .int x3), (4, .int x4), (5, .ref (u r5)), (6, .int x6), (7, .int x7), (8, .int x8), (9, .int x9), (11, .int x11)]) hx hb dcX8_unfold_60 hl (by decide) rfl (fun ls hl => ?_)
              exact ih_2 x1 x2 x3 x4 x6 x7 x8 x9 (x10 + 1) x11 x11 0 0 0 r0 r5 z H locs ls hr0 hr5 hM (lv_sub hl [3, 4, 5, 6, 7, 8, 9, 10, 11, 12, 2, 13, 1, 0] rfl) hq
            · have hq := tw_if hq hc
              refine lv_goto (tgt := 226) hx hb dcX8_unfold_49 (by decide) ?_
              exact ih_5 x1 x2 x3 x4 x6 x7 x8 x9 x10 x11 0 0 0 0 r0 r5 z H locs ls hr0 hr5 hM (lv_sub hl [0, 1, 2, 3, 4, 5, 6, 7, 8, 9, 10, 11] rfl) hq
        · intro x1 x2 x3 x4 x6 x7 x8 x9 x10 x11 x12 x13 x14 x15 r0 r5 z H locs ls hr0 hr5 hM hl hq
          have hq : cm_X8_unfold_2 vl K (cd0_X8_unfold vl K d) (c_X8_unfold vl K (cd0_X8_unfold vl K d) k) x1 x2 x3 x4 x6 x7 x8 x9 x10 x11 x12 x13 x14 x15 r0 r5 z = some z1 := hq
          unfold cm_X8_unfold_2 at hq
          refine lv_iload hx hb dcX8_unfold_62 (lv_at hl 13 rfl) ?_
          refine lv_iload hx hb dcX8_unfold_64 (lv_at hl 6 rfl) ?_
          refine lv_icmp_ge (tgt := 226) hx hb dcX8_unfold_66 (by decide) (fun hc => ?_) (fun hc => ?_)
          · have hq := tw_it hq hc
            exact ih_5 x1 x2 x3 x4 x6 x7 x8 x9 x10 x11 0 0 0 0 r0 r5 z H locs ls hr0 hr5 hM (lv_sub hl [0, 1, 2, 3, 4, 5, 6, 7, 8, 9, 10, 11] rfl) hq
          · have hq := tw_if hq hc
            refine lv_iload hx hb dcX8_unfold_69 (lv_at hl 9 rfl) ?_
            refine lv_iload hx hb dcX8_unfold_71 (lv_at hl 12 rfl) ?_
            refine lv_ishr hx hb dcX8_unfold_73 ?_
            refine lv_iconst (v := 1) hx hb dcX8_unfold_74 (by decide) ?_
            refine lv_iand hx hb dcX8_unfold_75 ?_
            refine lv_if_ne (tgt := 226) hx hb dcX8_unfold_76 (by decide) (fun hc => ?_) (fun hc => ?_)
            · have hq := tw_if hq hc
              exact ih_5 x1 x2 x3 x4 x6 x7 x8 x9 x10 x11 0 0 0 0 r0 r5 z H locs ls hr0 hr5 hM (lv_sub hl [0, 1, 2, 3, 4, 5, 6, 7, 8, 9, 10, 11] rfl) hq
            · have hq := tw_it hq hc
              refine lv_iload hx hb dcX8_unfold_79 (lv_at hl 12 rfl) ?_
              refine lv_iconst (v := 1) hx hb dcX8_unfold_81 (by decide) ?_
              refine lv_ishr hx hb dcX8_unfold_82 ?_
              refine lv_istore (lv' := [(14, .int ((x12 : Int32) >>> ((1 : Int32) &&& 31))), (0, .ref (u r0)), (1, .int x1), (2, .int x2), (3, .int x3), (4, .int x4), (5, .ref (u r5)), (6, .int x6), (7, .int x7), (8, .int x8), (9, .int x9), (10, .int x10), (11, .int x11), (12, .int x12), (13, .int x13)]) hx hb dcX8_unfold_83 hl (by decide) rfl (fun ls hl => ?_)
              refine lv_iload hx hb dcX8_unfold_85 (lv_at hl 9 rfl) ?_
              refine lv_iload hx hb dcX8_unfold_87 (lv_at hl 0 rfl) ?_
              refine lv_ishr hx hb dcX8_unfold_89 ?_
              refine lv_iconst (v := 1) hx hb dcX8_unfold_90 (by decide) ?_
              refine lv_iand hx hb dcX8_unfold_91 ?_
              refine lv_if_ne (tgt := 192) hx hb dcX8_unfold_92 (by decide) (fun hc => ?_) (fun hc => ?_)
              · have hq := tw_if hq hc
                exact ih_4 x1 x2 x3 x4 x6 x7 x8 x9 x10 x11 x12 x13 ((x12 : Int32) >>> ((1 : Int32) &&& 31)) 0 r0 r5 z H locs ls hr0 hr5 hM (lv_sub hl [1, 2, 3, 4, 5, 6, 7, 8, 9, 10, 11, 12, 13, 14, 0] rfl) hq
              · have hq := tw_it hq hc
                refine lv_iload hx hb dcX8_unfold_95 (lv_at hl 13 rfl) ?_
                refine lv_iconst (v := 1) hx hb dcX8_unfold_97 (by decide) ?_
                refine lv_iand hx hb dcX8_unfold_98 ?_
                refine lv_iconst (v := 1) hx hb dcX8_unfold_99 (by decide) ?_
                refine lv_icmp_ne (tgt := 192) hx hb dcX8_unfold_100 (by decide) (fun hc => ?_) (fun hc => ?_)
                · have hq := tw_if hq hc
                  exact ih_4 x1 x2 x3 x4 x6 x7 x8 x9 x10 x11 x12 x13 ((x12 : Int32) >>> ((1 : Int32) &&& 31)) 0 r0 r5 z H locs ls hr0 hr5 hM (lv_sub hl [1, 2, 3, 4, 5, 6, 7, 8, 9, 10, 11, 12, 13, 14, 0] rfl) hq
                · have hq := tw_it hq hc
                  refine lv_aload hx hb dcX8_unfold_103 (lv_at hl 6 rfl) ?_
                  refine vgX8_83 hx hb hT hown hK hM hr5 dcX8_unfold_105 ?_
                  refine lv_iload hx hb dcX8_unfold_108 (lv_at hl 0 rfl) ?_
                  refine uw_iald cX_ok hx hb hK hM (cr_X7_2 hr5) hq dcX8_unfold_110 (fun v5 hq => ?_)
                  refine lv_istore (lv' := [(15, .int v5), (14, .int ((x12 : Int32) >>> ((1 : Int32) &&& 31))), (0, .ref (u r0)), (1, .int x1), (2, .int x2), (3, .int x3), (4, .int x4), (5, .ref (u r5)), (6, .int x6), (7, .int x7), (8, .int x8), (9, .int x9), (10, .int x10), (11, .int x11), (12, .int x12), (13, .int x13)]) hx hb dcX8_unfold_111 hl (by decide) rfl (fun ls hl => ?_)
                  refine lv_iload_n hx hb dcX8_unfold_113 rfl (lv_at hl 3 rfl) ?_
                  refine lv_iconst (v := 1) hx hb dcX8_unfold_114 (by decide) ?_
                  refine lv_iadd hx hb dcX8_unfold_115 ?_
                  refine lv_aload_n hx hb dcX8_unfold_116 rfl (lv_at hl 2 rfl) ?_
                  refine vgX8_22 hx hb hT hown hK hM hr0 dcX8_unfold_117 ?_
                  refine uw_alen4 cX_ok hx hb hK hM (cr_X8_1 hr0) dcX8_unfold_120 ?_
                  refine lv_icmp_ge (tgt := 170) hx hb dcX8_unfold_121 (by decide) (fun hc => ?_) (fun hc => ?_)
                  · have hq := tw_it hq hc
                    exact ih_3 x1 x2 x3 x4 x6 x7 x8 x9 x10 x11 x12 x13 ((x12 : Int32) >>> ((1 : Int32) &&& 31)) v5 r0 r5 z H locs ls hr0 hr5 hM (lv_sub hl [2, 3, 4, 5, 6, 7, 8, 9, 10, 11, 12, 13, 14, 15, 1, 0] rfl) hq
                  · have hq := tw_if hq hc
                    refine lv_aload_n hx hb dcX8_unfold_124 rfl (lv_at hl 2 rfl) ?_
                    refine vgX8_22 hx hb hT hown hK hM hr0 dcX8_unfold_125 ?_
                    refine lv_iload_n hx hb dcX8_unfold_128 rfl (lv_at hl 3 rfl) ?_
                    refine lv_iconst (v := 1) hx hb dcX8_unfold_129 (by decide) ?_
                    refine lv_iadd hx hb dcX8_unfold_130 ?_
                    refine ca_X8_1 hx hb hK hM hr0 hq dcX8_unfold_131 (fun j6 hj6 hq => ?_)
                    refine lv_aload hx hb dcX8_unfold_132 (lv_at hl 7 rfl) ?_
                    obtain ⟨z7, hcq, hq⟩ := tw_cl0 hq
                    refine uw_calv hU hM (va_runV (As := [.ref (u r5)]) (rest := []) ⟨hx, hb, hml, hown, hts⟩ (kc_X7_copy l D q vl u hU.1 K (r0 + 2000 + 1000 * j6) r5 (cg_X8_1 hr0 hj6) hr5 z z7 hcq) (cwV 1 hts (tw_gV wC_good xq_620 xq_125 xq_126 xq_54 xq_127) rfl rfl rfl cdd_X7_copy ⟨(show (1 + 1 : Nat) ≤ 4 + (d + 1) from by omega), (show (8 + (2 + 11) + 60 : Nat) ≤ 86 + (d + 1) * 35 from by omega)⟩) (cw_preV hK hM (co_X7 (cg_X8_1 hr0 hj6)) rfl) rfl rfl hl.1 rfl (lv_room (Nat.le_of_ble_eq_true rfl)) dcX8_unfold_134 ⟨(Nat.le_of_ble_eq_true rfl), (Nat.le_of_ble_eq_true rfl)⟩) (fun H locs hM => ?_)
                    refine lv_aload_n hx hb dcX8_unfold_137 rfl (lv_at hl 2 rfl) ?_
                    refine vgX8_22 hx hb hT hown hK hM hr0 dcX8_unfold_138 ?_
                    refine lv_iload_n hx hb dcX8_unfold_141 rfl (lv_at hl 3 rfl) ?_
                    refine lv_iconst (v := 1) hx hb dcX8_unfold_142 (by decide) ?_
                    refine lv_iadd hx hb dcX8_unfold_143 ?_
                    refine ca_X8_1 hx hb hK hM hr0 hq dcX8_unfold_144 (fun j8 hj8 hq => ?_)
                    refine lv_iload hx hb dcX8_unfold_145 (lv_at hl 1 rfl) ?_
                    obtain ⟨z9, hcq, hq⟩ := tw_cl0 hq
                    refine uw_calv hU hM (va_runV (As := [.int ((x12 : Int32) >>> ((1 : Int32) &&& 31))]) (rest := []) ⟨hx, hb, hml, hown, hts⟩ (kc_X7_smoothCrossing l D q vl u hU.1 K (r0 + 2000 + 1000 * j8) ((x12 : Int32) >>> ((1 : Int32) &&& 31)) (cg_X8_1 hr0 hj8) z7 z9 hcq) (cwV 1 hts (tw_gV wC_good xq_621 xq_622 xq_623 xq_54 xq_574) rfl rfl rfl cdd_X7_smoothCrossing ⟨(show (3 + 1 : Nat) ≤ 4 + (d + 1) from by omega), (show (8 + (2 + 11) + 65 : Nat) ≤ 86 + (d + 1) * 35 from by omega)⟩) (cw_preV hK hM (co_X7 (cg_X8_1 hr0 hj8)) rfl) rfl rfl hl.1 rfl (lv_room (Nat.le_of_ble_eq_true rfl)) dcX8_unfold_147 ⟨(Nat.le_of_ble_eq_true rfl), (Nat.le_of_ble_eq_true rfl)⟩) (fun H locs hM => ?_)
                    refine lv_aload_n hx hb dcX8_unfold_150 rfl (lv_at hl 2 rfl) ?_
                    refine lv_iload_n hx hb dcX8_unfold_151 rfl (lv_at hl 3 rfl) ?_
                    refine lv_iconst (v := 1) hx hb dcX8_unfold_152 (by decide) ?_
                    refine lv_iadd hx hb dcX8_unfold_153 ?_
                    refine lv_iload_n hx hb dcX8_unfold_154 rfl (lv_at hl 4 rfl) ?_
                    refine lv_iload hx hb dcX8_unfold_155 (lv_at hl 0 rfl) ?_
                    refine lv_imul hx hb dcX8_unfold_157 ?_
                    refine lv_iload hx hb dcX8_unfold_158 (lv_at hl 9 rfl) ?_
                    refine lv_iload hx hb dcX8_unfold_160 (lv_at hl 0 rfl) ?_
                    refine lv_iadd hx hb dcX8_unfold_162 ?_
                    refine lv_iload hx hb dcX8_unfold_163 (lv_at hl 6 rfl) ?_
                    refine lv_iconst (v := 1) hx hb dcX8_unfold_165 (by decide) ?_
                    refine lv_iadd hx hb dcX8_unfold_166 ?_
                    obtain ⟨z10, hcq, hq⟩ := tw_cl0 hq
                    refine uw_calv hU hM (va_runV (As := [.int (x1 + 1), .int (x2 * v5), .int (x7 + v5), .int (x4 + 1)]) (rest := []) ⟨hx, hb, hml, hown, hts⟩ (ihd r0 (x1 + 1) (x2 * v5) (x7 + v5) (x4 + 1) hr0 z9 z10 hcq) (cwV 4 hts (tw_gV wC_good xq_612 xq_613 xq_614 xq_609 xq_615) rfl rfl rfl cdd_X8_unfold ⟨(show (4 + d + 1 : Nat) ≤ 4 + (d + 1) from by omega), (show (8 + (16 + 11) + (86 + d * 35) : Nat) ≤ 86 + (d + 1) * 35 from by omega)⟩) (cw_preV hK hM (co_X8 hr0) rfl) rfl rfl hl.1 rfl (lv_room (Nat.le_of_ble_eq_true rfl)) dcX8_unfold_167 ⟨(Nat.le_of_ble_eq_true rfl), (Nat.le_of_ble_eq_true rfl)⟩) (fun H locs hM => ?_)
                    exact ih_3 x1 x2 x3 x4 x6 x7 x8 x9 x10 x11 x12 x13 ((x12 : Int32) >>> ((1 : Int32) &&& 31)) v5 r0 r5 z10 H locs ls hr0 hr5 hM (lv_sub hl [2, 3, 4, 5, 6, 7, 8, 9, 10, 11, 12, 13, 14, 15, 1, 0] rfl) hq
        · intro x1 x2 x3 x4 x6 x7 x8 x9 x10 x11 x12 x13 x14 x15 r0 r5 z H locs ls hr0 hr5 hM hl hq
          have hq : cm_X8_unfold_3 vl K (cd0_X8_unfold vl K d) (c_X8_unfold vl K (cd0_X8_unfold vl K d) k) x1 x2 x3 x4 x6 x7 x8 x9 x10 x11 x12 x13 x14 x15 r0 r5 z = some z1 := hq
          unfold cm_X8_unfold_3 at hq
          refine lv_aload hx hb dcX8_unfold_170 (lv_at hl 5 rfl) ?_
          refine lv_iload hx hb dcX8_unfold_172 (lv_at hl 14 rfl) ?_
          obtain ⟨z11, hcq, hq⟩ := tw_cl0 hq
          refine uw_calv hU hM (va_runV (As := [.int x14]) (rest := []) ⟨hx, hb, hml, hown, hts⟩ (kc_X7_flipCrossing l D q vl u hU.1 K r5 x14 hr5 z z11 hcq) (cwV 1 hts (tw_gV wC_good xq_624 xq_625 xq_626 xq_54 xq_576) rfl rfl rfl cdd_X7_flipCrossing ⟨(show (2 + 1 : Nat) ≤ 4 + (d + 1) from by omega), (show (8 + (2 + 11) + 48 : Nat) ≤ 86 + (d + 1) * 35 from by omega)⟩) (cw_preV hK hM (co_X7 hr5) rfl) rfl rfl hl.1 rfl (lv_room (Nat.le_of_ble_eq_true rfl)) dcX8_unfold_174 ⟨(Nat.le_of_ble_eq_true rfl), (Nat.le_of_ble_eq_true rfl)⟩) (fun H locs hM => ?_)
          refine lv_iload hx hb dcX8_unfold_177 (lv_at hl 7 rfl) ?_
          refine lv_iconst (v := 2) hx hb dcX8_unfold_179 (by decide) ?_
          refine lv_iload hx hb dcX8_unfold_180 (lv_at hl 15 rfl) ?_
          refine lv_imul hx hb dcX8_unfold_182 ?_
          refine lv_iadd hx hb dcX8_unfold_183 ?_
          refine lv_istore (lv' := [(7, .int (x7 + (2 * x15))), (0, .ref (u r0)), (1, .int x1), (2, .int x2), (3, .int x3), (4, .int x4), (5, .ref (u r5)), (6, .int x6), (8, .int x8), (9, .int x9), (10, .int x10), (11, .int x11), (12, .int x12), (13, .int x13), (14, .int x14), (15, .int x15)]) hx hb dcX8_unfold_184 hl (by decide) rfl (fun ls hl => ?_)
          refine lv_iload hx hb dcX8_unfold_186 (lv_at hl 12 rfl) ?_
          refine lv_iconst (v := 1) hx hb dcX8_unfold_188 (by decide) ?_
          refine lv_ixor hx hb dcX8_unfold_189 ?_
          refine lv_istore (lv' := [(12, .int (x12 ^^^ 1)), (7, .int (x7 + (2 * x15))), (0, .ref (u r0)), (1, .int x1), (2, .int x2), (3, .int x3), (4, .int x4), (5, .ref (u r5)), (6, .int x6), (8, .int x8), (9, .int x9), (10, .int x10), (11, .int x11), (13, .int x13), (14, .int x14), (15, .int x15)]) hx hb dcX8_unfold_190 hl (by decide) rfl (fun ls hl => ?_)
          exact ih_4 x1 x2 x3 x4 x6 (x7 + (2 * x15)) x8 x9 x10 x11 (x12 ^^^ 1) x13 x14 0 r0 r5 z11 H locs ls hr0 hr5 hM (lv_sub hl [2, 3, 4, 5, 6, 7, 8, 1, 9, 10, 11, 12, 0, 13, 14] rfl) hq
        · intro x1 x2 x3 x4 x6 x7 x8 x9 x10 x11 x12 x13 x14 x15 r0 r5 z H locs ls hr0 hr5 hM hl hq
          have hq : cm_X8_unfold_4 vl K (cd0_X8_unfold vl K d) (c_X8_unfold vl K (cd0_X8_unfold vl K d) k) x1 x2 x3 x4 x6 x7 x8 x9 x10 x11 x12 x13 x14 x15 r0 r5 z = some z1 := hq
          unfold cm_X8_unfold_4 at hq
          refine lv_iload hx hb dcX8_unfold_192 (lv_at hl 8 rfl) ?_
          refine lv_iconst (v := 1) hx hb dcX8_unfold_194 (by decide) ?_
          refine lv_iload hx hb dcX8_unfold_195 (lv_at hl 14 rfl) ?_
          refine lv_ishl hx hb dcX8_unfold_197 ?_
          refine lv_ior hx hb dcX8_unfold_198 ?_
          refine lv_istore (lv' := [(8, .int (x8 ||| ((1 : Int32) <<< ((x14 : Int32) &&& 31)))), (0, .ref (u r0)), (1, .int x1), (2, .int x2), (3, .int x3), (4, .int x4), (5, .ref (u r5)), (6, .int x6), (7, .int x7), (9, .int x9), (10, .int x10), (11, .int x11), (12, .int x12), (13, .int x13), (14, .int x14)]) hx hb dcX8_unfold_199 hl (by decide) rfl (fun ls hl => ?_)
          refine lv_iload hx hb dcX8_unfold_201 (lv_at hl 9 rfl) ?_
          refine lv_iconst (v := 1) hx hb dcX8_unfold_203 (by decide) ?_
          refine lv_iload hx hb dcX8_unfold_204 (lv_at hl 12 rfl) ?_
          refine lv_ishl hx hb dcX8_unfold_206 ?_
          refine lv_ior hx hb dcX8_unfold_207 ?_
          refine lv_istore (lv' := [(9, .int (x9 ||| ((1 : Int32) <<< ((x12 : Int32) &&& 31)))), (8, .int (x8 ||| ((1 : Int32) <<< ((x14 : Int32) &&& 31)))), (0, .ref (u r0)), (1, .int x1), (2, .int x2), (3, .int x3), (4, .int x4), (5, .ref (u r5)), (6, .int x6), (7, .int x7), (10, .int x10), (11, .int x11), (12, .int x12), (13, .int x13), (14, .int x14)]) hx hb dcX8_unfold_208 hl (by decide) rfl (fun ls hl => ?_)
          refine lv_aload hx hb dcX8_unfold_210 (lv_at hl 7 rfl) ?_
          refine vgX8_96 hx hb hT hown hK hM hr5 dcX8_unfold_212 ?_
          refine lv_iload hx hb dcX8_unfold_215 (lv_at hl 12 rfl) ?_
          refine uw_iald cX_ok hx hb hK hM (cr_X7_0 hr5) hq dcX8_unfold_217 (fun v12 hq => ?_)
          refine lv_istore (lv' := [(12, .int v12), (9, .int (x9 ||| ((1 : Int32) <<< ((x12 : Int32) &&& 31)))), (8, .int (x8 ||| ((1 : Int32) <<< ((x14 : Int32) &&& 31)))), (0, .ref (u r0)), (1, .int x1), (2, .int x2), (3, .int x3), (4, .int x4), (5, .ref (u r5)), (6, .int x6), (7, .int x7), (10, .int x10), (11, .int x11), (13, .int x13), (14, .int x14)]) hx hb dcX8_unfold_218 hl (by decide) rfl (fun ls hl => ?_)
          refine lv_iinc (v := (x13 + 1)) (lv' := [(13, .int (x13 + 1)), (12, .int v12), (9, .int (x9 ||| ((1 : Int32) <<< ((x12 : Int32) &&& 31)))), (8, .int (x8 ||| ((1 : Int32) <<< ((x14 : Int32) &&& 31)))), (0, .ref (u r0)), (1, .int x1), (2, .int x2), (3, .int x3), (4, .int x4), (5, .ref (u r5)), (6, .int x6), (7, .int x7), (10, .int x10), (11, .int x11), (14, .int x14)]) hx hb dcX8_unfold_220 hl (k := 13) rfl rfl (by decide) rfl (fun ls hl => ?_)
          refine lv_goto (tgt := 62) hx hb dcX8_unfold_223 (by decide) ?_
          exact ih_2 x1 x2 x3 x4 x6 x7 (x8 ||| ((1 : Int32) <<< ((x14 : Int32) &&& 31))) (x9 ||| ((1 : Int32) <<< ((x12 : Int32) &&& 31))) x10 x11 v12 (x13 + 1) 0 0 r0 r5 z H locs ls hr0 hr5 hM (lv_sub hl [4, 5, 6, 7, 8, 9, 10, 11, 3, 2, 12, 13, 1, 0] rfl) hq
        · intro x1 x2 x3 x4 x6 x7 x8 x9 x10 x11 x12 x13 x14 x15 r0 r5 z H locs ls hr0 hr5 hM hl hq
          have hq : cm_X8_unfold_5 vl K (cd0_X8_unfold vl K d) (c_X8_unfold vl K (cd0_X8_unfold vl K d) k) x1 x2 x3 x4 x6 x7 x8 x9 x10 x11 x12 x13 x14 x15 r0 r5 z = some z1 := hq
          unfold cm_X8_unfold_5 at hq
          refine lv_iinc (v := (x11 + 1)) (lv' := [(11, .int (x11 + 1)), (0, .ref (u r0)), (1, .int x1), (2, .int x2), (3, .int x3), (4, .int x4), (5, .ref (u r5)), (6, .int x6), (7, .int x7), (8, .int x8), (9, .int x9), (10, .int x10)]) hx hb dcX8_unfold_226 hl (k := 11) rfl rfl (by decide) rfl (fun ls hl => ?_)
          refine lv_goto (tgt := 32) hx hb dcX8_unfold_229 (by decide) ?_
          exact ih_1 x1 x2 x3 x4 x6 x7 x8 x9 x10 (x11 + 1) 0 0 0 0 r0 r5 z H locs ls hr0 hr5 hM (lv_sub hl [1, 2, 3, 4, 5, 6, 7, 8, 9, 10, 11, 0] rfl) hq
    exact (key K).1 x1 x2 x3 x4 0 0 0 0 0 0 0 0 0 0 r0 0 z s.heap [] ls hr0 hM (lv_sub hl [0, 1, 2, 3, 4] rfl) hq
theorem kc_X8_unfold (l : Launch) (D : va_G) (q : Nat → ClassId) (vl u : Nat → Nat) (hU0 : tw_inj (cX vl) u) (K : Nat) (r0 : Nat) (x1 : Int32) (x2 : Int32) (x3 : Int32) (x4 : Int32) (hr0 : cw_X8 r0) (z z1 : ow_MS) (hq : ce_X8_unfold vl K r0 x1 x2 x3 x4 z = some z1) : Met l yX8_unfold wc_X8_unfold ({ frames := 19, cells := 0, slots := 0, locals := 611 } : Room) (va_Pc [.ref (u r0), .int x1, .int x2, .int x3, .int x4] (cw_pre D q vl u z)) (va_Qv (fun (_ : Unit) => True) (fun _ t => va_P D vwCl (uw (cX vl) q u z1) t.heap) (tw_A (cX vl) u)) 0 0 (tw_A (cX vl) u)   := kcd_X8_unfold l D q vl u hU0 K 15 r0 x1 x2 x3 x4 hr0 z z1 hq
theorem dcX8_unfoldCode_0 : decode cX8_unfoldCode 0 = .ok (.aload_n 0, 1) := dw_at cX8_unfoldCode_k0 (p := 0) rfl (by decide +kernel)
theorem dcX8_unfoldCode_1 : decode cX8_unfoldCode 1 = .ok (.iconst 0, 1) := dw_at cX8_unfoldCode_k0 (p := 1) rfl (by decide +kernel)
theorem dcX8_unfoldCode_2 : decode cX8_unfoldCode 2 = .ok (.aload_n 1, 1) := dw_at cX8_unfoldCode_k0 (p := 2) rfl (by decide +kernel)
theorem dcX8_unfoldCode_3 : decode cX8_unfoldCode 3 = .ok (.iload_n 2, 1) := dw_at cX8_unfoldCode_k0 (p := 3) rfl (by decide +kernel)
theorem dcX8_unfoldCode_4 : decode cX8_unfoldCode 4 = .ok (.invokevirtual 61, 3) := dw_at cX8_unfoldCode_k0 (p := 4) rfl (by decide +kernel)
theorem dcX8_unfoldCode_7 : decode cX8_unfoldCode 7 = .ok (.ifCond .eq 4, 3) := dw_at cX8_unfoldCode_k0 (p := 7) rfl (by decide +kernel)
theorem dcX8_unfoldCode_10 : decode cX8_unfoldCode 10 = .ok (.return_, 1) := dw_at cX8_unfoldCode_k0 (p := 10) rfl (by decide +kernel)
theorem dcX8_unfoldCode_11 : decode cX8_unfoldCode 11 = .ok (.aload_n 0, 1) := dw_at cX8_unfoldCode_k0 (p := 11) rfl (by decide +kernel)
theorem dcX8_unfoldCode_12 : decode cX8_unfoldCode 12 = .ok (.getfield 26, 3) := dw_at cX8_unfoldCode_k0 (p := 12) rfl (by decide +kernel)
theorem dcX8_unfoldCode_15 : decode cX8_unfoldCode 15 = .ok (.iconst 0, 1) := dw_at cX8_unfoldCode_k0 (p := 15) rfl (by decide +kernel)
theorem dcX8_unfoldCode_16 : decode cX8_unfoldCode 16 = .ok (.invokestatic 65, 3) := dw_at cX8_unfoldCode_k0 (p := 16) rfl (by decide +kernel)
theorem dcX8_unfoldCode_19 : decode cX8_unfoldCode 19 = .ok (.aload_n 0, 1) := dw_at cX8_unfoldCode_k0 (p := 19) rfl (by decide +kernel)
theorem dcX8_unfoldCode_20 : decode cX8_unfoldCode 20 = .ok (.getfield 30, 3) := dw_at cX8_unfoldCode_k0 (p := 20) rfl (by decide +kernel)
theorem dcX8_unfoldCode_23 : decode cX8_unfoldCode 23 = .ok (.iconst 0, 1) := dw_at cX8_unfoldCode_k0 (p := 23) rfl (by decide +kernel)
theorem dcX8_unfoldCode_24 : decode cX8_unfoldCode 24 = .ok (.invokestatic 65, 3) := dw_at cX8_unfoldCode_k1 (p := 0) rfl (by decide +kernel)
theorem dcX8_unfoldCode_27 : decode cX8_unfoldCode 27 = .ok (.aload_n 0, 1) := dw_at cX8_unfoldCode_k1 (p := 3) rfl (by decide +kernel)
theorem dcX8_unfoldCode_28 : decode cX8_unfoldCode 28 = .ok (.getfield 22, 3) := dw_at cX8_unfoldCode_k1 (p := 4) rfl (by decide +kernel)
theorem dcX8_unfoldCode_31 : decode cX8_unfoldCode 31 = .ok (.iconst 0, 1) := dw_at cX8_unfoldCode_k1 (p := 7) rfl (by decide +kernel)
theorem dcX8_unfoldCode_32 : decode cX8_unfoldCode 32 = .ok (.aaload, 1) := dw_at cX8_unfoldCode_k1 (p := 8) rfl (by decide +kernel)
theorem dcX8_unfoldCode_33 : decode cX8_unfoldCode 33 = .ok (.aload_n 1, 1) := dw_at cX8_unfoldCode_k1 (p := 9) rfl (by decide +kernel)
theorem dcX8_unfoldCode_34 : decode cX8_unfoldCode 34 = .ok (.iload_n 2, 1) := dw_at cX8_unfoldCode_k1 (p := 10) rfl (by decide +kernel)
theorem dcX8_unfoldCode_35 : decode cX8_unfoldCode 35 = .ok (.invokevirtual 71, 3) := dw_at cX8_unfoldCode_k1 (p := 11) rfl (by decide +kernel)
theorem dcX8_unfoldCode_38 : decode cX8_unfoldCode 38 = .ok (.aload_n 0, 1) := dw_at cX8_unfoldCode_k1 (p := 14) rfl (by decide +kernel)
theorem dcX8_unfoldCode_39 : decode cX8_unfoldCode 39 = .ok (.iconst 0, 1) := dw_at cX8_unfoldCode_k1 (p := 15) rfl (by decide +kernel)
theorem dcX8_unfoldCode_40 : decode cX8_unfoldCode 40 = .ok (.iconst 1, 1) := dw_at cX8_unfoldCode_k1 (p := 16) rfl (by decide +kernel)
theorem dcX8_unfoldCode_41 : decode cX8_unfoldCode 41 = .ok (.iconst 0, 1) := dw_at cX8_unfoldCode_k1 (p := 17) rfl (by decide +kernel)
theorem dcX8_unfoldCode_42 : decode cX8_unfoldCode 42 = .ok (.iconst 0, 1) := dw_at cX8_unfoldCode_k1 (p := 18) rfl (by decide +kernel)
theorem dcX8_unfoldCode_43 : decode cX8_unfoldCode 43 = .ok (.invokevirtual 75, 3) := dw_at cX8_unfoldCode_k1 (p := 19) rfl (by decide +kernel)
theorem dcX8_unfoldCode_46 : decode cX8_unfoldCode 46 = .ok (.return_, 1) := dw_at cX8_unfoldCode_k1 (p := 22) rfl (by decide +kernel)
def cm_X8_unfoldCode_0 (vl : Nat → Nat) (K : Nat) (x2 : Int32) (r0 : Nat) (r1 : Nat) (z : ow_MS) : Option ow_MS :=
 cs1 (ce_X8_isKnown vl K r0 0 r1 x2 z) fun v2 z1 => (if v2 = 0 then cs0 (ce_J7_fill_53178 vl K (r0 + 3) 0 z1) fun z3 => cs0 (ce_J7_fill_53178 vl K (r0 + 4) 0 z3) fun z4 => crX 13 0 fun j5 => cs0 (ce_X7_load vl K (r0 + 2000 + 1000 * j5) r1 x2 z4) fun z6 => cs0 (ce_X8_unfold vl K r0 0 1 0 0 z6) fun z7 => some z7
 else some z1)
def ce_X8_unfoldCode (vl : Nat → Nat) (K : Nat) (r0 : Nat) (r1 : Nat) (x2 : Int32) (z : ow_MS) : Option ow_MS := cm_X8_unfoldCode_0 vl K x2 r0 r1 z
abbrev wc_X8_unfoldCode : List Cond := .code yX8_unfoldCode cX8_unfoldCode 3 none :: wC
theorem cdd_X8_unfoldCode : yX8_unfoldCode.cls = RX8 ∧ yX8_unfoldCode.cls ≠ "java/lang/invoke/MethodHandle" ∧ yX8_unfoldCode.cls ≠ "java/lang/invoke/VarHandle" ∧ (parseMethodDescriptor yX8_unfoldCode.desc).map (fun d => d.parameters.length) = some 2 := by decide +kernel
set_option maxHeartbeats 4000000 in
set_option maxRecDepth 100000 in
theorem kc_X8_unfoldCode (l : Launch) (D : va_G) (q : Nat → ClassId) (vl u : Nat → Nat) (hU0 : tw_inj (cX vl) u) (K : Nat) (r0 : Nat) (r1 : Nat) (x2 : Int32) (hr0 : cw_X8 r0) (hr1 : cw_X3 r1) (z z1 : ow_MS) (hq : ce_X8_unfoldCode vl K r0 r1 x2 z = some z1) : Met l yX8_unfoldCode wc_X8_unfoldCode ({ frames := 20, cells := 0, slots := 0, locals := 646 } : Room) (va_Pc [.ref (u r0), .ref (u r1), .int x2] (cw_pre D q vl u z)) (va_Qv (fun (_ : Unit) => True) (fun _ t => va_P D vwCl (uw (cX vl) q u z1) t.heap) (tw_A (cX vl) u)) 0 0 (tw_A (cX vl) u) := by
  refine Met.ofW (cc := cX8_unfoldCode) (maxL := 3) (ret := none) (by decide) rfl ?_
  intro p e s m args below meth c s₁ B hml hv
  obtain ⟨rfl, hP, hK⟩ := hv
  have hx := B.exec
  have hb := B.bytes
  have hr := B.returns
  have hts := atoms_spec (ws := wc_X8_unfoldCode) B.pre
  have hT : ∀ w ∈ wC, w.before ([.ref (u r0), .ref (u r1), .int x2] : List Value).toArray s = true := fun w h => hts w (List.mem_cons_of_mem _ h)
  have hown : s.vm.findClass RX8 = some m.cls := findClass_of_methodNamed B.named
  have hlocks := B.notSynchronized
  have hU : uw_inj (cX vl) u (tw_A (cX vl) u) := ⟨hU0, fun h hh => ⟨h, hh, rfl⟩⟩
  have hM : uw_M D vwCl (cX vl) q (tw_A (cX vl) u) s.heap u z s.heap [] := ⟨hP, va_S.rf⟩
  have hl := lv_entry ([.ref (u r0), .ref (u r1), .int x2]) (n := 3) (Nat.le_of_ble_eq_true rfl)
  rw [lg_entry_eq]
  generalize (lg_sl ([.ref (u r0), .ref (u r1), .int x2]) ++ List.replicate (3 - (lg_sl ([.ref (u r0), .ref (u r1), .int x2])).length) Slot.unset).toArray = ls at hl ⊢
  have hl : lv_has ls 3 [(0, .ref (u r0)), (1, .ref (u r1)), (2, .int x2)] := hl
  refine ow_named (fun QQ hQQ => ?_)
  generalize ([.ref (u r0), .ref (u r1), .int x2] : List Value).toArray = args at hts hT hQQ ⊢
  have hq : cm_X8_unfoldCode_0 vl K x2 r0 r1 z = some z1 := hq
  unfold cm_X8_unfoldCode_0 at hq
  suffices key : ∀ (H : Heap) (locs : List Loc), uw_M D vwCl (cX vl) q (tw_A (cX vl) u) s.heap u z H locs → W p l e ({ frames := 20, cells := 0, slots := 0, locals := 646 } : Room) s m args below meth c H locs 0 0 QQ (F0 m 0 ls []) from key s.heap [] hM
  intro H locs hM
  refine lv_aload_n hx hb dcX8_unfoldCode_0 rfl (lv_at hl 0 rfl) ?_
  refine lv_iconst (v := 0) hx hb dcX8_unfoldCode_1 (by decide) ?_
  refine lv_aload_n hx hb dcX8_unfoldCode_2 rfl (lv_at hl 1 rfl) ?_
  refine lv_iload_n hx hb dcX8_unfoldCode_3 rfl (lv_at hl 2 rfl) ?_
  obtain ⟨v2, z1, hcq, hq⟩ := tw_cl1 hq
  refine uw_cali hU hM (va_runV (As := [.int 0, .ref (u r1), .int x2]) (rest := []) ⟨hx, hb, hml, hown, hts⟩ (kc_X8_isKnown l D q vl u hU.1 K r0 0 r1 x2 hr0 hr1 z z1 v2 hcq) (cwV 3 hts (tw_gV wC_good xq_606 xq_607 xq_608 xq_609 xq_602) rfl rfl rfl cdd_X8_isKnown ⟨(Nat.le_of_ble_eq_true rfl), (Nat.le_of_ble_eq_true rfl)⟩) (cw_preV hK hM (co_X8 hr0) rfl) rfl rfl hl.1 rfl (lv_room (Nat.le_of_ble_eq_true rfl)) dcX8_unfoldCode_4 ⟨(Nat.le_of_ble_eq_true rfl), (Nat.le_of_ble_eq_true rfl)⟩) (fun H locs hM => ?_)
  refine lv_if_eq (tgt := 11) hx hb dcX8_unfoldCode_7 (by decide) (fun hc => ?_) (fun hc => ?_)
  · have hq := tw_it hq hc
    refine lv_aload_n hx hb dcX8_unfoldCode_11 rfl (lv_at hl 0 rfl) ?_
    refine vgX8_26 hx hb hT hown hK hM hr0 dcX8_unfoldCode_12 ?_
    refine lv_iconst (v := 0) hx hb dcX8_unfoldCode_15 (by decide) ?_
    obtain ⟨z3, hcq, hq⟩ := tw_cl0 hq
    refine uw_calv hU hM (va_runS (As := [.ref (u (r0 + 3)), .int 0]) (rest := []) ⟨hx, hb, hml, hown, hts⟩ (kc_J7_fill_53178 l D q vl u hU.1 K (r0 + 3) 0 (cr_X8_2 hr0) z1 z3 hcq) (va_cwS 2 hts (tw_gS wC_good xq_610 xq_8 xq_9 xq_10) rfl rfl rfl cdd_J7_fill_53178 ⟨(Nat.le_of_ble_eq_true rfl), (Nat.le_of_ble_eq_true rfl)⟩) (cw_preS hK hM) rfl rfl hl.1 rfl (lv_room (Nat.le_of_ble_eq_true rfl)) dcX8_unfoldCode_16 ⟨(Nat.le_of_ble_eq_true rfl), (Nat.le_of_ble_eq_true rfl)⟩) (fun H locs hM => ?_)
    refine lv_aload_n hx hb dcX8_unfoldCode_19 rfl (lv_at hl 0 rfl) ?_
    refine vgX8_30 hx hb hT hown hK hM hr0 dcX8_unfoldCode_20 ?_
    refine lv_iconst (v := 0) hx hb dcX8_unfoldCode_23 (by decide) ?_
    obtain ⟨z4, hcq, hq⟩ := tw_cl0 hq
    refine uw_calv hU hM (va_runS (As := [.ref (u (r0 + 4)), .int 0]) (rest := []) ⟨hx, hb, hml, hown, hts⟩ (kc_J7_fill_53178 l D q vl u hU.1 K (r0 + 4) 0 (cr_X8_3 hr0) z3 z4 hcq) (va_cwS 2 hts (tw_gS wC_good xq_610 xq_8 xq_9 xq_10) rfl rfl rfl cdd_J7_fill_53178 ⟨(Nat.le_of_ble_eq_true rfl), (Nat.le_of_ble_eq_true rfl)⟩) (cw_preS hK hM) rfl rfl hl.1 rfl (lv_room (Nat.le_of_ble_eq_true rfl)) dcX8_unfoldCode_24 ⟨(Nat.le_of_ble_eq_true rfl), (Nat.le_of_ble_eq_true rfl)⟩) (fun H locs hM => ?_)
    refine lv_aload_n hx hb dcX8_unfoldCode_27 rfl (lv_at hl 0 rfl) ?_
    refine vgX8_22 hx hb hT hown hK hM hr0 dcX8_unfoldCode_28 ?_
    refine lv_iconst (v := 0) hx hb dcX8_unfoldCode_31 (by decide) ?_
    refine ca_X8_1 hx hb hK hM hr0 hq dcX8_unfoldCode_32 (fun j5 hj5 hq => ?_)
    refine lv_aload_n hx hb dcX8_unfoldCode_33 rfl (lv_at hl 1 rfl) ?_
    refine lv_iload_n hx hb dcX8_unfoldCode_34 rfl (lv_at hl 2 rfl) ?_
    obtain ⟨z6, hcq, hq⟩ := tw_cl0 hq
    refine uw_calv hU hM (va_runV (As := [.ref (u r1), .int x2]) (rest := []) ⟨hx, hb, hml, hown, hts⟩ (kc_X7_load l D q vl u hU.1 K (r0 + 2000 + 1000 * j5) r1 x2 (cg_X8_1 hr0 hj5) hr1 z4 z6 hcq) (cwV 2 hts (tw_gV wC_good xq_611 xq_468 xq_469 xq_54 xq_470) rfl rfl rfl cdd_X7_load ⟨(Nat.le_of_ble_eq_true rfl), (Nat.le_of_ble_eq_true rfl)⟩) (cw_preV hK hM (co_X7 (cg_X8_1 hr0 hj5)) rfl) rfl rfl hl.1 rfl (lv_room (Nat.le_of_ble_eq_true rfl)) dcX8_unfoldCode_35 ⟨(Nat.le_of_ble_eq_true rfl), (Nat.le_of_ble_eq_true rfl)⟩) (fun H locs hM => ?_)
    refine lv_aload_n hx hb dcX8_unfoldCode_38 rfl (lv_at hl 0 rfl) ?_
    refine lv_iconst (v := 0) hx hb dcX8_unfoldCode_39 (by decide) ?_
    refine lv_iconst (v := 1) hx hb dcX8_unfoldCode_40 (by decide) ?_
    refine lv_iconst (v := 0) hx hb dcX8_unfoldCode_41 (by decide) ?_
    refine lv_iconst (v := 0) hx hb dcX8_unfoldCode_42 (by decide) ?_
    obtain ⟨z7, hcq, hq⟩ := tw_cl0 hq
    refine uw_calv hU hM (va_runV (As := [.int 0, .int 1, .int 0, .int 0]) (rest := []) ⟨hx, hb, hml, hown, hts⟩ (kc_X8_unfold l D q vl u hU.1 K r0 0 1 0 0 hr0 z6 z7 hcq) (cwV 4 hts (tw_gV wC_good xq_612 xq_613 xq_614 xq_609 xq_615) rfl rfl rfl cdd_X8_unfold ⟨(Nat.le_of_ble_eq_true rfl), (Nat.le_of_ble_eq_true rfl)⟩) (cw_preV hK hM (co_X8 hr0) rfl) rfl rfl hl.1 rfl (lv_room (Nat.le_of_ble_eq_true rfl)) dcX8_unfoldCode_43 ⟨(Nat.le_of_ble_eq_true rfl), (Nat.le_of_ble_eq_true rfl)⟩) (fun H locs hM => ?_)
    exact cw_vret hx hb hr hlocks hM hq hQQ dcX8_unfoldCode_46
  · have hq := tw_if hq hc
    exact cw_vret hx hb hr hlocks hM hq hQQ dcX8_unfoldCode_10
theorem dcX8_conwayAt_0 : decode cX8_conwayAt 0 = .ok (.iload_n 1, 1) := by decide +kernel
theorem dcX8_conwayAt_1 : decode cX8_conwayAt 1 = .ok (.ifCond .lt 12, 3) := by decide +kernel
theorem dcX8_conwayAt_4 : decode cX8_conwayAt 4 = .ok (.iload_n 1, 1) := by decide +kernel
theorem dcX8_conwayAt_5 : decode cX8_conwayAt 5 = .ok (.aload_n 0, 1) := by decide +kernel
theorem dcX8_conwayAt_6 : decode cX8_conwayAt 6 = .ok (.getfield 26, 3) := by decide +kernel
theorem dcX8_conwayAt_9 : decode cX8_conwayAt 9 = .ok (.arraylength, 1) := by decide +kernel
theorem dcX8_conwayAt_10 : decode cX8_conwayAt 10 = .ok (.if_icmp .lt 7, 3) := by decide +kernel
theorem dcX8_conwayAt_13 : decode cX8_conwayAt 13 = .ok (.iconst 0, 1) := by decide +kernel
theorem dcX8_conwayAt_14 : decode cX8_conwayAt 14 = .ok (.goto 9, 3) := by decide +kernel
theorem dcX8_conwayAt_17 : decode cX8_conwayAt 17 = .ok (.aload_n 0, 1) := by decide +kernel
theorem dcX8_conwayAt_18 : decode cX8_conwayAt 18 = .ok (.getfield 26, 3) := by decide +kernel
theorem dcX8_conwayAt_21 : decode cX8_conwayAt 21 = .ok (.iload_n 1, 1) := by decide +kernel
theorem dcX8_conwayAt_22 : decode cX8_conwayAt 22 = .ok (.iaload, 1) := by decide +kernel
theorem dcX8_conwayAt_23 : decode cX8_conwayAt 23 = .ok (.ireturn, 1) := by decide +kernel
def cm_X8_conwayAt_0 (vl : Nat → Nat) (K : Nat) (go : Nat → Int32 → Nat → ow_MS → Option (Int32 × ow_MS)) (x1 : Int32) (r0 : Nat) (z : ow_MS) : Option (Int32 × ow_MS) :=
 (if x1 < 0 then go 1 x1 r0 z
 else (if x1 < (Int32.ofNat (uw_len (cX vl) z (r0 + 3))) then crI (cX vl) z (r0 + 3) x1 fun v1 => some (v1, z)
 else go 1 x1 r0 z))
def cm_X8_conwayAt_1 (vl : Nat → Nat) (K : Nat) (go : Nat → Int32 → Nat → ow_MS → Option (Int32 × ow_MS)) (x1 : Int32) (r0 : Nat) (z : ow_MS) : Option (Int32 × ow_MS) :=
 some (0, z)
def cb_X8_conwayAt (vl : Nat → Nat) (K : Nat) (go : Nat → Int32 → Nat → ow_MS → Option (Int32 × ow_MS)) (L : Nat) (x1 : Int32) (r0 : Nat) (z : ow_MS) : Option (Int32 × ow_MS) := match L with
  | 0 => cm_X8_conwayAt_0 vl K go x1 r0 z
  | 1 => cm_X8_conwayAt_1 vl K go x1 r0 z
  | _ => none
def c_X8_conwayAt (vl : Nat → Nat) (K : Nat) : Nat → Nat → Int32 → Nat → ow_MS → Option (Int32 × ow_MS)
  | 0 => fun _ _ _ _ => none
  | k + 1 => cb_X8_conwayAt vl K (c_X8_conwayAt vl K k)
def ce_X8_conwayAt (vl : Nat → Nat) (K : Nat) (r0 : Nat) (x1 : Int32) (z : ow_MS) : Option (Int32 × ow_MS) := c_X8_conwayAt vl K K 0 x1 r0 z
abbrev wc_X8_conwayAt : List Cond := .code yX8_conwayAt cX8_conwayAt 2 (some .int) :: wC
theorem cdd_X8_conwayAt : yX8_conwayAt.cls = RX8 ∧ yX8_conwayAt.cls ≠ "java/lang/invoke/MethodHandle" ∧ yX8_conwayAt.cls ≠ "java/lang/invoke/VarHandle" ∧ (parseMethodDescriptor yX8_conwayAt.desc).map (fun d => d.parameters.length) = some 1 := by decide +kernel
set_option maxHeartbeats 4000000 in
set_option maxRecDepth 100000 in
theorem kc_X8_conwayAt (l : Launch) (D : va_G) (q : Nat → ClassId) (vl u : Nat → Nat) (hU0 : tw_inj (cX vl) u) (K : Nat) (r0 : Nat) (x1 : Int32) (hr0 : cw_X8 r0) (z z1 : ow_MS) (r : Int32) (hq : ce_X8_conwayAt vl K r0 x1 z = some (r, z1)) : Met l yX8_conwayAt wc_X8_conwayAt ({ frames := 0, cells := 0, slots := 0, locals := 0 } : Room) (va_Pc [.ref (u r0), .int x1] (cw_pre D q vl u z)) (va_Qi (fun x (_ : Unit) => x = r) (fun _ t => va_P D vwCl (uw (cX vl) q u z1) t.heap) (tw_A (cX vl) u)) 0 0 (tw_A (cX vl) u) := by
  refine Met.ofW (cc := cX8_conwayAt) (maxL := 2) (ret := (some .int)) (by decide) rfl ?_
  intro p e s m args below meth c s₁ B hml hv
  obtain ⟨rfl, hP, hK⟩ := hv
  have hx := B.exec
  have hb := B.bytes
  have hr := B.returns
  have hts := atoms_spec (ws := wc_X8_conwayAt) B.pre
  have hT : ∀ w ∈ wC, w.before ([.ref (u r0), .int x1] : List Value).toArray s = true := fun w h => hts w (List.mem_cons_of_mem _ h)
  have hown : s.vm.findClass RX8 = some m.cls := findClass_of_methodNamed B.named
  have hlocks := B.notSynchronized
  have hU : uw_inj (cX vl) u (tw_A (cX vl) u) := ⟨hU0, fun h hh => ⟨h, hh, rfl⟩⟩
  have hM : uw_M D vwCl (cX vl) q (tw_A (cX vl) u) s.heap u z s.heap [] := ⟨hP, va_S.rf⟩
  have hl := lv_entry ([.ref (u r0), .int x1]) (n := 2) (Nat.le_of_ble_eq_true rfl)
  rw [lg_entry_eq]
  generalize (lg_sl ([.ref (u r0), .int x1]) ++ List.replicate (2 - (lg_sl ([.ref (u r0), .int x1])).length) Slot.unset).toArray = ls at hl ⊢
  have hl : lv_has ls 2 [(0, .ref (u r0)), (1, .int x1)] := hl
  refine ow_named (fun QQ hQQ => ?_)
  generalize ([.ref (u r0), .int x1] : List Value).toArray = args at hts hT hQQ ⊢
  have key : ∀ k : Nat, (∀ (x1 : Int32) (r0 : Nat) (z : ow_MS) (H : Heap) (locs : List Loc) (ls : Array Slot), cw_X8 r0 → uw_M D vwCl (cX vl) q (tw_A (cX vl) u) s.heap u z H locs → lv_has ls 2 [(0, .ref (u r0)), (1, .int x1)] → c_X8_conwayAt vl K k 0 x1 r0 z = some (r, z1) → W p l e ({ frames := 0, cells := 0, slots := 0, locals := 0 } : Room) s m args below meth c H locs 0 0 QQ (F0 m 0 ls [])) ∧ (∀ (x1 : Int32) (r0 : Nat) (z : ow_MS) (H : Heap) (locs : List Loc) (ls : Array Slot), cw_X8 r0 → uw_M D vwCl (cX vl) q (tw_A (cX vl) u) s.heap u z H locs → lv_has ls 2 [(0, .ref (u r0)), (1, .int x1)] → c_X8_conwayAt vl K k 1 x1 r0 z = some (r, z1) → W p l e ({ frames := 0, cells := 0, slots := 0, locals := 0 } : Room) s m args below meth c H locs 0 0 QQ (F0 m 13 ls [])) := by
    intro k
    induction k with
    | zero => exact ⟨fun _ _ _ _ _ _ _ _ _ hq => cw_no hq, fun _ _ _ _ _ _ _ _ _ hq => cw_no hq⟩
    | succ k ih =>
      obtain ⟨ih_0, ih_1⟩ := ih
      refine ⟨?_, ?_⟩
      · intro x1 r0 z H locs ls hr0 hM hl hq
        have hq : cm_X8_conwayAt_0 vl K (c_X8_conwayAt vl K k) x1 r0 z = some (r, z1) := hq
        unfold cm_X8_conwayAt_0 at hq
        refine lv_iload_n hx hb dcX8_conwayAt_0 rfl (lv_at hl 1 rfl) ?_
        refine lv_if_lt (tgt := 13) hx hb dcX8_conwayAt_1 (by decide) (fun hc => ?_) (fun hc => ?_)
        · have hq := tw_it hq hc
          exact ih_1 x1 r0 z H locs ls hr0 hM (lv_sub hl [0, 1] rfl) hq
        · have hq := tw_if hq hc
          refine lv_iload_n hx hb dcX8_conwayAt_4 rfl (lv_at hl 1 rfl) ?_
          refine lv_aload_n hx hb dcX8_conwayAt_5 rfl (lv_at hl 0 rfl) ?_
          refine vgX8_26 hx hb hT hown hK hM hr0 dcX8_conwayAt_6 ?_
          refine uw_alen cX_ok hx hb hK hM (cr_X8_2 hr0) dcX8_conwayAt_9 ?_
          refine lv_icmp_lt (tgt := 17) hx hb dcX8_conwayAt_10 (by decide) (fun hc => ?_) (fun hc => ?_)
          · have hq := tw_it hq hc
            refine lv_aload_n hx hb dcX8_conwayAt_17 rfl (lv_at hl 0 rfl) ?_
            refine vgX8_26 hx hb hT hown hK hM hr0 dcX8_conwayAt_18 ?_
            refine lv_iload_n hx hb dcX8_conwayAt_21 rfl (lv_at hl 1 rfl) ?_
            refine uw_iald cX_ok hx hb hK hM (cr_X8_2 hr0) hq dcX8_conwayAt_22 (fun v1 hq => ?_)
            exact cw_iret hx hb hr hlocks hM hq hQQ dcX8_conwayAt_23
          · have hq := tw_if hq hc
            exact ih_1 x1 r0 z H locs ls hr0 hM (lv_sub hl [0, 1] rfl) hq
      · intro x1 r0 z H locs ls hr0 hM hl hq
        have hq : cm_X8_conwayAt_1 vl K (c_X8_conwayAt vl K k) x1 r0 z = some (r, z1) := hq
        unfold cm_X8_conwayAt_1 at hq
        refine lv_iconst (v := 0) hx hb dcX8_conwayAt_13 (by decide) ?_
        refine lv_goto (tgt := 23) hx hb dcX8_conwayAt_14 (by decide) ?_
        exact cw_iret hx hb hr hlocks hM hq hQQ dcX8_conwayAt_23
  exact (key K).1 x1 r0 z s.heap [] ls hr0 hM (lv_sub hl [0, 1] rfl) hq
theorem dcX8_twoAt_0 : decode cX8_twoAt 0 = .ok (.iload_n 1, 1) := by decide +kernel
theorem dcX8_twoAt_1 : decode cX8_twoAt 1 = .ok (.i2l, 1) := by decide +kernel
theorem dcX8_twoAt_2 : decode cX8_twoAt 2 = .ok (.iload_n 2, 1) := by decide +kernel
theorem dcX8_twoAt_3 : decode cX8_twoAt 3 = .ok (.i2l, 1) := by decide +kernel
theorem dcX8_twoAt_4 : decode cX8_twoAt 4 = .ok (.invokestatic 105, 3) := by decide +kernel
theorem dcX8_twoAt_7 : decode cX8_twoAt 7 = .ok (.istore_n 3, 1) := by decide +kernel
theorem dcX8_twoAt_8 : decode cX8_twoAt 8 = .ok (.iload_n 3, 1) := by decide +kernel
theorem dcX8_twoAt_9 : decode cX8_twoAt 9 = .ok (.iconst (-1), 1) := by decide +kernel
theorem dcX8_twoAt_10 : decode cX8_twoAt 10 = .ok (.if_icmp .ne 7, 3) := by decide +kernel
theorem dcX8_twoAt_13 : decode cX8_twoAt 13 = .ok (.iconst 0, 1) := by decide +kernel
theorem dcX8_twoAt_14 : decode cX8_twoAt 14 = .ok (.goto 9, 3) := by decide +kernel
theorem dcX8_twoAt_17 : decode cX8_twoAt 17 = .ok (.aload_n 0, 1) := by decide +kernel
theorem dcX8_twoAt_18 : decode cX8_twoAt 18 = .ok (.getfield 30, 3) := by decide +kernel
theorem dcX8_twoAt_21 : decode cX8_twoAt 21 = .ok (.iload_n 3, 1) := by decide +kernel
theorem dcX8_twoAt_22 : decode cX8_twoAt 22 = .ok (.iaload, 1) := by decide +kernel
theorem dcX8_twoAt_23 : decode cX8_twoAt 23 = .ok (.ireturn, 1) := by decide +kernel
def cm_X8_twoAt_0 (vl : Nat → Nat) (K : Nat) (x1 : Int32) (x2 : Int32) (r0 : Nat) (z : ow_MS) : Option (Int32 × ow_MS) :=
 cs1 (ce_X8_twoIndex vl K x1.toInt64 x2.toInt64 z) fun v2 z1 => (if v2 = (-1) then some (0, z1)
 else crI (cX vl) z1 (r0 + 4) v2 fun v3 => some (v3, z1))
def ce_X8_twoAt (vl : Nat → Nat) (K : Nat) (r0 : Nat) (x1 : Int32) (x2 : Int32) (z : ow_MS) : Option (Int32 × ow_MS) := cm_X8_twoAt_0 vl K x1 x2 r0 z
abbrev wc_X8_twoAt : List Cond := .code yX8_twoAt cX8_twoAt 4 (some .int) :: wC
theorem cdd_X8_twoAt : yX8_twoAt.cls = RX8 ∧ yX8_twoAt.cls ≠ "java/lang/invoke/MethodHandle" ∧ yX8_twoAt.cls ≠ "java/lang/invoke/VarHandle" ∧ (parseMethodDescriptor yX8_twoAt.desc).map (fun d => d.parameters.length) = some 2 := by decide +kernel
set_option maxHeartbeats 4000000 in
set_option maxRecDepth 100000 in
theorem kc_X8_twoAt (l : Launch) (D : va_G) (q : Nat → ClassId) (vl u : Nat → Nat) (hU0 : tw_inj (cX vl) u) (K : Nat) (r0 : Nat) (x1 : Int32) (x2 : Int32) (hr0 : cw_X8 r0) (z z1 : ow_MS) (r : Int32) (hq : ce_X8_twoAt vl K r0 x1 x2 z = some (r, z1)) : Met l yX8_twoAt wc_X8_twoAt ({ frames := 1, cells := 0, slots := 0, locals := 27 } : Room) (va_Pc [.ref (u r0), .int x1, .int x2] (cw_pre D q vl u z)) (va_Qi (fun x (_ : Unit) => x = r) (fun _ t => va_P D vwCl (uw (cX vl) q u z1) t.heap) (tw_A (cX vl) u)) 0 0 (tw_A (cX vl) u) := by
  refine Met.ofW (cc := cX8_twoAt) (maxL := 4) (ret := (some .int)) (by decide) rfl ?_
  intro p e s m args below meth c s₁ B hml hv
  obtain ⟨rfl, hP, hK⟩ := hv
  have hx := B.exec
  have hb := B.bytes
  have hr := B.returns
  have hts := atoms_spec (ws := wc_X8_twoAt) B.pre
  have hT : ∀ w ∈ wC, w.before ([.ref (u r0), .int x1, .int x2] : List Value).toArray s = true := fun w h => hts w (List.mem_cons_of_mem _ h)
  have hown : s.vm.findClass RX8 = some m.cls := findClass_of_methodNamed B.named
  have hlocks := B.notSynchronized
  have hU : uw_inj (cX vl) u (tw_A (cX vl) u) := ⟨hU0, fun h hh => ⟨h, hh, rfl⟩⟩
  have hM : uw_M D vwCl (cX vl) q (tw_A (cX vl) u) s.heap u z s.heap [] := ⟨hP, va_S.rf⟩
  have hl := lv_entry ([.ref (u r0), .int x1, .int x2]) (n := 4) (Nat.le_of_ble_eq_true rfl)
  rw [lg_entry_eq]
  generalize (lg_sl ([.ref (u r0), .int x1, .int x2]) ++ List.replicate (4 - (lg_sl ([.ref (u r0), .int x1, .int x2])).length) Slot.unset).toArray = ls at hl ⊢
  have hl : lv_has ls 4 [(0, .ref (u r0)), (1, .int x1), (2, .int x2)] := hl
  refine ow_named (fun QQ hQQ => ?_)
  generalize ([.ref (u r0), .int x1, .int x2] : List Value).toArray = args at hts hT hQQ ⊢
  have hq : cm_X8_twoAt_0 vl K x1 x2 r0 z = some (r, z1) := hq
  unfold cm_X8_twoAt_0 at hq
  suffices key : ∀ (H : Heap) (locs : List Loc), uw_M D vwCl (cX vl) q (tw_A (cX vl) u) s.heap u z H locs → W p l e ({ frames := 1, cells := 0, slots := 0, locals := 27 } : Room) s m args below meth c H locs 0 0 QQ (F0 m 0 ls []) from key s.heap [] hM
  intro H locs hM
  refine lv_iload_n hx hb dcX8_twoAt_0 rfl (lv_at hl 1 rfl) ?_
  refine lv_i2l hx hb dcX8_twoAt_1 rfl ?_
  refine lv_iload_n hx hb dcX8_twoAt_2 rfl (lv_at hl 2 rfl) ?_
  refine lv_i2l hx hb dcX8_twoAt_3 rfl ?_
  obtain ⟨v2, z1, hcq, hq⟩ := tw_cl1 hq
  refine uw_cali hU hM (va_runS (As := [.long x1.toInt64, .long x2.toInt64]) (rest := []) ⟨hx, hb, hml, hown, hts⟩ (kc_X8_twoIndex l D q vl u hU.1 K x1.toInt64 x2.toInt64 z z1 v2 hcq) (va_cwS 2 hts (tw_gS wC_good xq_632 xq_633 xq_609 xq_634) rfl rfl rfl cdd_X8_twoIndex ⟨(Nat.le_of_ble_eq_true rfl), (Nat.le_of_ble_eq_true rfl)⟩) (cw_preS hK hM) rfl rfl hl.1 rfl (lv_room (Nat.le_of_ble_eq_true rfl)) dcX8_twoAt_4 ⟨(Nat.le_of_ble_eq_true rfl), (Nat.le_of_ble_eq_true rfl)⟩) (fun H locs hM => ?_)
  refine lv_istore_n (lv' := [(3, .int v2), (0, .ref (u r0)), (1, .int x1), (2, .int x2)]) hx hb dcX8_twoAt_7 rfl hl (by decide) rfl (fun ls hl => ?_)
  refine lv_iload_n hx hb dcX8_twoAt_8 rfl (lv_at hl 0 rfl) ?_
  refine lv_iconst (v := (-1)) hx hb dcX8_twoAt_9 (by decide) ?_
  refine lv_icmp_ne (tgt := 17) hx hb dcX8_twoAt_10 (by decide) (fun hc => ?_) (fun hc => ?_)
  · have hq := tw_if hq hc
    refine lv_aload_n hx hb dcX8_twoAt_17 rfl (lv_at hl 1 rfl) ?_
    refine vgX8_30 hx hb hT hown hK hM hr0 dcX8_twoAt_18 ?_
    refine lv_iload_n hx hb dcX8_twoAt_21 rfl (lv_at hl 0 rfl) ?_
    refine uw_iald cX_ok hx hb hK hM (cr_X8_3 hr0) hq dcX8_twoAt_22 (fun v3 hq => ?_)
    exact cw_iret hx hb hr hlocks hM hq hQQ dcX8_twoAt_23
  · have hq := tw_it hq hc
    refine lv_iconst (v := 0) hx hb dcX8_twoAt_13 (by decide) ?_
    refine lv_goto (tgt := 23) hx hb dcX8_twoAt_14 (by decide) ?_
    exact cw_iret hx hb hr hlocks hM hq hQQ dcX8_twoAt_23
theorem dcX8_tie_0 : decode cX8_tie 0 = .ok (.aload_n 0, 1) := dw_at cX8_tie_k0 (p := 0) rfl (by decide +kernel)
theorem dcX8_tie_1 : decode cX8_tie 1 = .ok (.getfield 41, 3) := dw_at cX8_tie_k0 (p := 1) rfl (by decide +kernel)
theorem dcX8_tie_4 : decode cX8_tie 4 = .ok (.iload_n 1, 1) := dw_at cX8_tie_k0 (p := 4) rfl (by decide +kernel)
theorem dcX8_tie_5 : decode cX8_tie 5 = .ok (.iaload, 1) := dw_at cX8_tie_k0 (p := 5) rfl (by decide +kernel)
theorem dcX8_tie_6 : decode cX8_tie 6 = .ok (.iload_n 2, 1) := dw_at cX8_tie_k0 (p := 6) rfl (by decide +kernel)
theorem dcX8_tie_7 : decode cX8_tie 7 = .ok (.if_icmp .ne 5, 3) := dw_at cX8_tie_k0 (p := 7) rfl (by decide +kernel)
theorem dcX8_tie_10 : decode cX8_tie 10 = .ok (.iconst 1, 1) := dw_at cX8_tie_k0 (p := 10) rfl (by decide +kernel)
theorem dcX8_tie_11 : decode cX8_tie 11 = .ok (.ireturn, 1) := dw_at cX8_tie_k0 (p := 11) rfl (by decide +kernel)
theorem dcX8_tie_12 : decode cX8_tie 12 = .ok (.aload_n 0, 1) := dw_at cX8_tie_k0 (p := 12) rfl (by decide +kernel)
theorem dcX8_tie_13 : decode cX8_tie 13 = .ok (.getfield 41, 3) := dw_at cX8_tie_k0 (p := 13) rfl (by decide +kernel)
theorem dcX8_tie_16 : decode cX8_tie 16 = .ok (.aload_n 0, 1) := dw_at cX8_tie_k0 (p := 16) rfl (by decide +kernel)
theorem dcX8_tie_17 : decode cX8_tie 17 = .ok (.getfield 41, 3) := dw_at cX8_tie_k0 (p := 17) rfl (by decide +kernel)
theorem dcX8_tie_20 : decode cX8_tie 20 = .ok (.iload_n 1, 1) := dw_at cX8_tie_k0 (p := 20) rfl (by decide +kernel)
theorem dcX8_tie_21 : decode cX8_tie 21 = .ok (.iaload, 1) := dw_at cX8_tie_k0 (p := 21) rfl (by decide +kernel)
theorem dcX8_tie_22 : decode cX8_tie 22 = .ok (.aload_n 0, 1) := dw_at cX8_tie_k0 (p := 22) rfl (by decide +kernel)
theorem dcX8_tie_23 : decode cX8_tie 23 = .ok (.getfield 41, 3) := dw_at cX8_tie_k0 (p := 23) rfl (by decide +kernel)
theorem dcX8_tie_26 : decode cX8_tie 26 = .ok (.iload_n 2, 1) := dw_at cX8_tie_k1 (p := 0) rfl (by decide +kernel)
theorem dcX8_tie_27 : decode cX8_tie 27 = .ok (.iaload, 1) := dw_at cX8_tie_k1 (p := 1) rfl (by decide +kernel)
theorem dcX8_tie_28 : decode cX8_tie 28 = .ok (.iastore, 1) := dw_at cX8_tie_k1 (p := 2) rfl (by decide +kernel)
theorem dcX8_tie_29 : decode cX8_tie 29 = .ok (.aload_n 0, 1) := dw_at cX8_tie_k1 (p := 3) rfl (by decide +kernel)
theorem dcX8_tie_30 : decode cX8_tie 30 = .ok (.getfield 41, 3) := dw_at cX8_tie_k1 (p := 4) rfl (by decide +kernel)
theorem dcX8_tie_33 : decode cX8_tie 33 = .ok (.aload_n 0, 1) := dw_at cX8_tie_k1 (p := 7) rfl (by decide +kernel)
theorem dcX8_tie_34 : decode cX8_tie 34 = .ok (.getfield 41, 3) := dw_at cX8_tie_k1 (p := 8) rfl (by decide +kernel)
theorem dcX8_tie_37 : decode cX8_tie 37 = .ok (.iload_n 2, 1) := dw_at cX8_tie_k1 (p := 11) rfl (by decide +kernel)
theorem dcX8_tie_38 : decode cX8_tie 38 = .ok (.iaload, 1) := dw_at cX8_tie_k1 (p := 12) rfl (by decide +kernel)
theorem dcX8_tie_39 : decode cX8_tie 39 = .ok (.aload_n 0, 1) := dw_at cX8_tie_k1 (p := 13) rfl (by decide +kernel)
theorem dcX8_tie_40 : decode cX8_tie 40 = .ok (.getfield 41, 3) := dw_at cX8_tie_k1 (p := 14) rfl (by decide +kernel)
theorem dcX8_tie_43 : decode cX8_tie 43 = .ok (.iload_n 1, 1) := dw_at cX8_tie_k1 (p := 17) rfl (by decide +kernel)
theorem dcX8_tie_44 : decode cX8_tie 44 = .ok (.iaload, 1) := dw_at cX8_tie_k1 (p := 18) rfl (by decide +kernel)
theorem dcX8_tie_45 : decode cX8_tie 45 = .ok (.iastore, 1) := dw_at cX8_tie_k1 (p := 19) rfl (by decide +kernel)
theorem dcX8_tie_46 : decode cX8_tie 46 = .ok (.iconst 0, 1) := dw_at cX8_tie_k1 (p := 20) rfl (by decide +kernel)
theorem dcX8_tie_47 : decode cX8_tie 47 = .ok (.ireturn, 1) := dw_at cX8_tie_k1 (p := 21) rfl (by decide +kernel)
def cm_X8_tie_0 (vl : Nat → Nat) (K : Nat) (x1 : Int32) (x2 : Int32) (r0 : Nat) (z : ow_MS) : Option (Int32 × ow_MS) :=
 crI (cX vl) z (r0 + 7) x1 fun v1 => (if v1 = x2 then some (1, z)
 else crI (cX vl) z (r0 + 7) x1 fun v2 => crI (cX vl) z (r0 + 7) x2 fun v3 => ctI (cX vl) z (r0 + 7) v2 v3 fun z4 => crI (cX vl) z4 (r0 + 7) x2 fun v5 => crI (cX vl) z4 (r0 + 7) x1 fun v6 => ctI (cX vl) z4 (r0 + 7) v5 v6 fun z7 => some (0, z7))
def ce_X8_tie (vl : Nat → Nat) (K : Nat) (r0 : Nat) (x1 : Int32) (x2 : Int32) (z : ow_MS) : Option (Int32 × ow_MS) := cm_X8_tie_0 vl K x1 x2 r0 z
abbrev wc_X8_tie : List Cond := .code yX8_tie cX8_tie 3 (some .int) :: wC
theorem cdd_X8_tie : yX8_tie.cls = RX8 ∧ yX8_tie.cls ≠ "java/lang/invoke/MethodHandle" ∧ yX8_tie.cls ≠ "java/lang/invoke/VarHandle" ∧ (parseMethodDescriptor yX8_tie.desc).map (fun d => d.parameters.length) = some 2 := by decide +kernel
set_option maxHeartbeats 4000000 in
set_option maxRecDepth 100000 in
theorem kc_X8_tie (l : Launch) (D : va_G) (q : Nat → ClassId) (vl u : Nat → Nat) (hU0 : tw_inj (cX vl) u) (K : Nat) (r0 : Nat) (x1 : Int32) (x2 : Int32) (hr0 : cw_X8 r0) (z z1 : ow_MS) (r : Int32) (hq : ce_X8_tie vl K r0 x1 x2 z = some (r, z1)) : Met l yX8_tie wc_X8_tie ({ frames := 0, cells := 0, slots := 0, locals := 0 } : Room) (va_Pc [.ref (u r0), .int x1, .int x2] (cw_pre D q vl u z)) (va_Qi (fun x (_ : Unit) => x = r) (fun _ t => va_P D vwCl (uw (cX vl) q u z1) t.heap) (tw_A (cX vl) u)) 0 0 (tw_A (cX vl) u) := by
  refine Met.ofW (cc := cX8_tie) (maxL := 3) (ret := (some .int)) (by decide) rfl ?_
  intro p e s m args below meth c s₁ B hml hv
  obtain ⟨rfl, hP, hK⟩ := hv
  have hx := B.exec
  have hb := B.bytes
  have hr := B.returns
  have hts := atoms_spec (ws := wc_X8_tie) B.pre
  have hT : ∀ w ∈ wC, w.before ([.ref (u r0), .int x1, .int x2] : List Value).toArray s = true := fun w h => hts w (List.mem_cons_of_mem _ h)
  have hown : s.vm.findClass RX8 = some m.cls := findClass_of_methodNamed B.named
  have hlocks := B.notSynchronized
  have hU : uw_inj (cX vl) u (tw_A (cX vl) u) := ⟨hU0, fun h hh => ⟨h, hh, rfl⟩⟩
  have hM : uw_M D vwCl (cX vl) q (tw_A (cX vl) u) s.heap u z s.heap [] := ⟨hP, va_S.rf⟩
  have hl := lv_entry ([.ref (u r0), .int x1, .int x2]) (n := 3) (Nat.le_of_ble_eq_true rfl)
  rw [lg_entry_eq]
  generalize (lg_sl ([.ref (u r0), .int x1, .int x2]) ++ List.replicate (3 - (lg_sl ([.ref (u r0), .int x1, .int x2])).length) Slot.unset).toArray = ls at hl ⊢
  have hl : lv_has ls 3 [(0, .ref (u r0)), (1, .int x1), (2, .int x2)] := hl
  refine ow_named (fun QQ hQQ => ?_)
  generalize ([.ref (u r0), .int x1, .int x2] : List Value).toArray = args at hts hT hQQ ⊢
  have hq : cm_X8_tie_0 vl K x1 x2 r0 z = some (r, z1) := hq
  unfold cm_X8_tie_0 at hq
  suffices key : ∀ (H : Heap) (locs : List Loc), uw_M D vwCl (cX vl) q (tw_A (cX vl) u) s.heap u z H locs → W p l e ({ frames := 0, cells := 0, slots := 0, locals := 0 } : Room) s m args below meth c H locs 0 0 QQ (F0 m 0 ls []) from key s.heap [] hM
  intro H locs hM
  refine lv_aload_n hx hb dcX8_tie_0 rfl (lv_at hl 0 rfl) ?_
  refine vgX8_41 hx hb hT hown hK hM hr0 dcX8_tie_1 ?_
  refine lv_iload_n hx hb dcX8_tie_4 rfl (lv_at hl 1 rfl) ?_
  refine uw_iald cX_ok hx hb hK hM (cr_X8_6 hr0) hq dcX8_tie_5 (fun v1 hq => ?_)
  refine lv_iload_n hx hb dcX8_tie_6 rfl (lv_at hl 2 rfl) ?_
  refine lv_icmp_ne (tgt := 12) hx hb dcX8_tie_7 (by decide) (fun hc => ?_) (fun hc => ?_)
  · have hq := tw_if hq hc
    refine lv_aload_n hx hb dcX8_tie_12 rfl (lv_at hl 0 rfl) ?_
    refine vgX8_41 hx hb hT hown hK hM hr0 dcX8_tie_13 ?_
    refine lv_aload_n hx hb dcX8_tie_16 rfl (lv_at hl 0 rfl) ?_
    refine vgX8_41 hx hb hT hown hK hM hr0 dcX8_tie_17 ?_
    refine lv_iload_n hx hb dcX8_tie_20 rfl (lv_at hl 1 rfl) ?_
    refine uw_iald cX_ok hx hb hK hM (cr_X8_6 hr0) hq dcX8_tie_21 (fun v2 hq => ?_)
    refine lv_aload_n hx hb dcX8_tie_22 rfl (lv_at hl 0 rfl) ?_
    refine vgX8_41 hx hb hT hown hK hM hr0 dcX8_tie_23 ?_
    refine lv_iload_n hx hb dcX8_tie_26 rfl (lv_at hl 2 rfl) ?_
    refine uw_iald cX_ok hx hb hK hM (cr_X8_6 hr0) hq dcX8_tie_27 (fun v3 hq => ?_)
    refine uw_iast cX_ok hU hx hb hK hM (cr_X8_6 hr0) hq dcX8_tie_28 (fun z4 H locs hM hq => ?_)
    refine lv_aload_n hx hb dcX8_tie_29 rfl (lv_at hl 0 rfl) ?_
    refine vgX8_41 hx hb hT hown hK hM hr0 dcX8_tie_30 ?_
    refine lv_aload_n hx hb dcX8_tie_33 rfl (lv_at hl 0 rfl) ?_
    refine vgX8_41 hx hb hT hown hK hM hr0 dcX8_tie_34 ?_
    refine lv_iload_n hx hb dcX8_tie_37 rfl (lv_at hl 2 rfl) ?_
    refine uw_iald cX_ok hx hb hK hM (cr_X8_6 hr0) hq dcX8_tie_38 (fun v5 hq => ?_)
    refine lv_aload_n hx hb dcX8_tie_39 rfl (lv_at hl 0 rfl) ?_
    refine vgX8_41 hx hb hT hown hK hM hr0 dcX8_tie_40 ?_
    refine lv_iload_n hx hb dcX8_tie_43 rfl (lv_at hl 1 rfl) ?_
    refine uw_iald cX_ok hx hb hK hM (cr_X8_6 hr0) hq dcX8_tie_44 (fun v6 hq => ?_)
    refine uw_iast cX_ok hU hx hb hK hM (cr_X8_6 hr0) hq dcX8_tie_45 (fun z7 H locs hM hq => ?_)
    refine lv_iconst (v := 0) hx hb dcX8_tie_46 (by decide) ?_
    exact cw_iret hx hb hr hlocks hM hq hQQ dcX8_tie_47
  · have hq := tw_it hq hc
    refine lv_iconst (v := 1) hx hb dcX8_tie_10 (by decide) ?_
    exact cw_iret hx hb hr hlocks hM hq hQQ dcX8_tie_11
theorem dcX8_untie_0 : decode cX8_untie 0 = .ok (.aload_n 0, 1) := by decide +kernel
theorem dcX8_untie_1 : decode cX8_untie 1 = .ok (.getfield 41, 3) := by decide +kernel
theorem dcX8_untie_4 : decode cX8_untie 4 = .ok (.iload_n 1, 1) := by decide +kernel
theorem dcX8_untie_5 : decode cX8_untie 5 = .ok (.iaload, 1) := by decide +kernel
theorem dcX8_untie_6 : decode cX8_untie 6 = .ok (.iload_n 2, 1) := by decide +kernel
theorem dcX8_untie_7 : decode cX8_untie 7 = .ok (.if_icmp .eq 27, 3) := by decide +kernel
theorem dcX8_untie_10 : decode cX8_untie 10 = .ok (.aload_n 0, 1) := by decide +kernel
theorem dcX8_untie_11 : decode cX8_untie 11 = .ok (.getfield 41, 3) := by decide +kernel
theorem dcX8_untie_14 : decode cX8_untie 14 = .ok (.aload_n 0, 1) := by decide +kernel
theorem dcX8_untie_15 : decode cX8_untie 15 = .ok (.getfield 41, 3) := by decide +kernel
theorem dcX8_untie_18 : decode cX8_untie 18 = .ok (.iload_n 1, 1) := by decide +kernel
theorem dcX8_untie_19 : decode cX8_untie 19 = .ok (.iaload, 1) := by decide +kernel
theorem dcX8_untie_20 : decode cX8_untie 20 = .ok (.iload_n 1, 1) := by decide +kernel
theorem dcX8_untie_21 : decode cX8_untie 21 = .ok (.iastore, 1) := by decide +kernel
theorem dcX8_untie_22 : decode cX8_untie 22 = .ok (.aload_n 0, 1) := by decide +kernel
theorem dcX8_untie_23 : decode cX8_untie 23 = .ok (.getfield 41, 3) := by decide +kernel
theorem dcX8_untie_26 : decode cX8_untie 26 = .ok (.aload_n 0, 1) := by decide +kernel
theorem dcX8_untie_27 : decode cX8_untie 27 = .ok (.getfield 41, 3) := by decide +kernel
theorem dcX8_untie_30 : decode cX8_untie 30 = .ok (.iload_n 2, 1) := by decide +kernel
theorem dcX8_untie_31 : decode cX8_untie 31 = .ok (.iaload, 1) := by decide +kernel
theorem dcX8_untie_32 : decode cX8_untie 32 = .ok (.iload_n 2, 1) := by decide +kernel
theorem dcX8_untie_33 : decode cX8_untie 33 = .ok (.iastore, 1) := by decide +kernel
theorem dcX8_untie_34 : decode cX8_untie 34 = .ok (.return_, 1) := by decide +kernel
def cm_X8_untie_0 (vl : Nat → Nat) (K : Nat) (x1 : Int32) (x2 : Int32) (r0 : Nat) (z : ow_MS) : Option ow_MS :=
 crI (cX vl) z (r0 + 7) x1 fun v1 => (if v1 = x2 then some z
 else crI (cX vl) z (r0 + 7) x1 fun v2 => ctI (cX vl) z (r0 + 7) v2 x1 fun z3 => crI (cX vl) z3 (r0 + 7) x2 fun v4 => ctI (cX vl) z3 (r0 + 7) v4 x2 fun z5 => some z5)
def ce_X8_untie (vl : Nat → Nat) (K : Nat) (r0 : Nat) (x1 : Int32) (x2 : Int32) (z : ow_MS) : Option ow_MS := cm_X8_untie_0 vl K x1 x2 r0 z
abbrev wc_X8_untie : List Cond := .code yX8_untie cX8_untie 3 none :: wC
theorem cdd_X8_untie : yX8_untie.cls = RX8 ∧ yX8_untie.cls ≠ "java/lang/invoke/MethodHandle" ∧ yX8_untie.cls ≠ "java/lang/invoke/VarHandle" ∧ (parseMethodDescriptor yX8_untie.desc).map (fun d => d.parameters.length) = some 2 := by decide +kernel
set_option maxHeartbeats 4000000 in
set_option maxRecDepth 100000 in
theorem kc_X8_untie (l : Launch) (D : va_G) (q : Nat → ClassId) (vl u : Nat → Nat) (hU0 : tw_inj (cX vl) u) (K : Nat) (r0 : Nat) (x1 : Int32) (x2 : Int32) (hr0 : cw_X8 r0) (z z1 : ow_MS) (hq : ce_X8_untie vl K r0 x1 x2 z = some z1) : Met l yX8_untie wc_X8_untie ({ frames := 0, cells := 0, slots := 0, locals := 0 } : Room) (va_Pc [.ref (u r0), .int x1, .int x2] (cw_pre D q vl u z)) (va_Qv (fun (_ : Unit) => True) (fun _ t => va_P D vwCl (uw (cX vl) q u z1) t.heap) (tw_A (cX vl) u)) 0 0 (tw_A (cX vl) u) := by
  refine Met.ofW (cc := cX8_untie) (maxL := 3) (ret := none) (by decide) rfl ?_
  intro p e s m args below meth c s₁ B hml hv
  obtain ⟨rfl, hP, hK⟩ := hv
  have hx := B.exec
  have hb := B.bytes
  have hr := B.returns
  have hts := atoms_spec (ws := wc_X8_untie) B.pre
  have hT : ∀ w ∈ wC, w.before ([.ref (u r0), .int x1, .int x2] : List Value).toArray s = true := fun w h => hts w (List.mem_cons_of_mem _ h)
  have hown : s.vm.findClass RX8 = some m.cls := findClass_of_methodNamed B.named
  have hlocks := B.notSynchronized
  have hU : uw_inj (cX vl) u (tw_A (cX vl) u) := ⟨hU0, fun h hh => ⟨h, hh, rfl⟩⟩
  have hM : uw_M D vwCl (cX vl) q (tw_A (cX vl) u) s.heap u z s.heap [] := ⟨hP, va_S.rf⟩
  have hl := lv_entry ([.ref (u r0), .int x1, .int x2]) (n := 3) (Nat.le_of_ble_eq_true rfl)
  rw [lg_entry_eq]
  generalize (lg_sl ([.ref (u r0), .int x1, .int x2]) ++ List.replicate (3 - (lg_sl ([.ref (u r0), .int x1, .int x2])).length) Slot.unset).toArray = ls at hl ⊢
  have hl : lv_has ls 3 [(0, .ref (u r0)), (1, .int x1), (2, .int x2)] := hl
  refine ow_named (fun QQ hQQ => ?_)
  generalize ([.ref (u r0), .int x1, .int x2] : List Value).toArray = args at hts hT hQQ ⊢
  have hq : cm_X8_untie_0 vl K x1 x2 r0 z = some z1 := hq
  unfold cm_X8_untie_0 at hq
  suffices key : ∀ (H : Heap) (locs : List Loc), uw_M D vwCl (cX vl) q (tw_A (cX vl) u) s.heap u z H locs → W p l e ({ frames := 0, cells := 0, slots := 0, locals := 0 } : Room) s m args below meth c H locs 0 0 QQ (F0 m 0 ls []) from key s.heap [] hM
  intro H locs hM
  refine lv_aload_n hx hb dcX8_untie_0 rfl (lv_at hl 0 rfl) ?_
  refine vgX8_41 hx hb hT hown hK hM hr0 dcX8_untie_1 ?_
  refine lv_iload_n hx hb dcX8_untie_4 rfl (lv_at hl 1 rfl) ?_
  refine uw_iald cX_ok hx hb hK hM (cr_X8_6 hr0) hq dcX8_untie_5 (fun v1 hq => ?_)
  refine lv_iload_n hx hb dcX8_untie_6 rfl (lv_at hl 2 rfl) ?_
  refine lv_icmp_eq (tgt := 34) hx hb dcX8_untie_7 (by decide) (fun hc => ?_) (fun hc => ?_)
  · have hq := tw_it hq hc
    exact cw_vret hx hb hr hlocks hM hq hQQ dcX8_untie_34
  · have hq := tw_if hq hc
    refine lv_aload_n hx hb dcX8_untie_10 rfl (lv_at hl 0 rfl) ?_
    refine vgX8_41 hx hb hT hown hK hM hr0 dcX8_untie_11 ?_
    refine lv_aload_n hx hb dcX8_untie_14 rfl (lv_at hl 0 rfl) ?_
    refine vgX8_41 hx hb hT hown hK hM hr0 dcX8_untie_15 ?_
    refine lv_iload_n hx hb dcX8_untie_18 rfl (lv_at hl 1 rfl) ?_
    refine uw_iald cX_ok hx hb hK hM (cr_X8_6 hr0) hq dcX8_untie_19 (fun v2 hq => ?_)
    refine lv_iload_n hx hb dcX8_untie_20 rfl (lv_at hl 1 rfl) ?_
    refine uw_iast cX_ok hU hx hb hK hM (cr_X8_6 hr0) hq dcX8_untie_21 (fun z3 H locs hM hq => ?_)
    refine lv_aload_n hx hb dcX8_untie_22 rfl (lv_at hl 0 rfl) ?_
    refine vgX8_41 hx hb hT hown hK hM hr0 dcX8_untie_23 ?_
    refine lv_aload_n hx hb dcX8_untie_26 rfl (lv_at hl 0 rfl) ?_
    refine vgX8_41 hx hb hT hown hK hM hr0 dcX8_untie_27 ?_
    refine lv_iload_n hx hb dcX8_untie_30 rfl (lv_at hl 2 rfl) ?_
    refine uw_iald cX_ok hx hb hK hM (cr_X8_6 hr0) hq dcX8_untie_31 (fun v4 hq => ?_)
    refine lv_iload_n hx hb dcX8_untie_32 rfl (lv_at hl 2 rfl) ?_
    refine uw_iast cX_ok hU hx hb hK hM (cr_X8_6 hr0) hq dcX8_untie_33 (fun z5 H locs hM hq => ?_)
    exact cw_vret hx hb hr hlocks hM hq hQQ dcX8_untie_34
theorem dcX8_takeBoth_0 : decode cX8_takeBoth 0 = .ok (.iload_n 1, 1) := dw_at cX8_takeBoth_k0 (p := 0) rfl (by decide +kernel)
theorem dcX8_takeBoth_1 : decode cX8_takeBoth 1 = .ok (.aload_n 0, 1) := dw_at cX8_takeBoth_k0 (p := 1) rfl (by decide +kernel)
theorem dcX8_takeBoth_2 : decode cX8_takeBoth 2 = .ok (.getfield 45, 3) := dw_at cX8_takeBoth_k0 (p := 2) rfl (by decide +kernel)
theorem dcX8_takeBoth_5 : decode cX8_takeBoth 5 = .ok (.getfield 79, 3) := dw_at cX8_takeBoth_k0 (p := 5) rfl (by decide +kernel)
theorem dcX8_takeBoth_8 : decode cX8_takeBoth 8 = .ok (.if_icmp .lt 19, 3) := dw_at cX8_takeBoth_k0 (p := 8) rfl (by decide +kernel)
theorem dcX8_takeBoth_11 : decode cX8_takeBoth 11 = .ok (.aload_n 0, 1) := dw_at cX8_takeBoth_k0 (p := 11) rfl (by decide +kernel)
theorem dcX8_takeBoth_12 : decode cX8_takeBoth 12 = .ok (.getfield 38, 3) := dw_at cX8_takeBoth_k0 (p := 12) rfl (by decide +kernel)
theorem dcX8_takeBoth_15 : decode cX8_takeBoth 15 = .ok (.iload_n 2, 1) := dw_at cX8_takeBoth_k0 (p := 15) rfl (by decide +kernel)
theorem dcX8_takeBoth_16 : decode cX8_takeBoth 16 = .ok (.bipush 24, 2) := dw_at cX8_takeBoth_k0 (p := 16) rfl (by decide +kernel)
theorem dcX8_takeBoth_18 : decode cX8_takeBoth 18 = .ok (.imul, 1) := dw_at cX8_takeBoth_k0 (p := 18) rfl (by decide +kernel)
theorem dcX8_takeBoth_19 : decode cX8_takeBoth 19 = .ok (.iload_n 3, 1) := dw_at cX8_takeBoth_k0 (p := 19) rfl (by decide +kernel)
theorem dcX8_takeBoth_20 : decode cX8_takeBoth 20 = .ok (.iadd, 1) := dw_at cX8_takeBoth_k0 (p := 20) rfl (by decide +kernel)
theorem dcX8_takeBoth_21 : decode cX8_takeBoth 21 = .ok (.dup2, 1) := dw_at cX8_takeBoth_k0 (p := 21) rfl (by decide +kernel)
theorem dcX8_takeBoth_22 : decode cX8_takeBoth 22 = .ok (.iaload, 1) := dw_at cX8_takeBoth_k0 (p := 22) rfl (by decide +kernel)
theorem dcX8_takeBoth_23 : decode cX8_takeBoth 23 = .ok (.iconst 1, 1) := dw_at cX8_takeBoth_k0 (p := 23) rfl (by decide +kernel)
theorem dcX8_takeBoth_24 : decode cX8_takeBoth 24 = .ok (.iadd, 1) := dw_at cX8_takeBoth_k1 (p := 0) rfl (by decide +kernel)
theorem dcX8_takeBoth_25 : decode cX8_takeBoth 25 = .ok (.iastore, 1) := dw_at cX8_takeBoth_k1 (p := 1) rfl (by decide +kernel)
theorem dcX8_takeBoth_26 : decode cX8_takeBoth 26 = .ok (.return_, 1) := dw_at cX8_takeBoth_k1 (p := 2) rfl (by decide +kernel)
theorem dcX8_takeBoth_27 : decode cX8_takeBoth 27 = .ok (.iconst 4, 1) := dw_at cX8_takeBoth_k1 (p := 3) rfl (by decide +kernel)
theorem dcX8_takeBoth_28 : decode cX8_takeBoth 28 = .ok (.iload_n 1, 1) := dw_at cX8_takeBoth_k1 (p := 4) rfl (by decide +kernel)
theorem dcX8_takeBoth_29 : decode cX8_takeBoth 29 = .ok (.imul, 1) := dw_at cX8_takeBoth_k1 (p := 5) rfl (by decide +kernel)
theorem dcX8_takeBoth_30 : decode cX8_takeBoth 30 = .ok (.istore 4, 2) := dw_at cX8_takeBoth_k1 (p := 6) rfl (by decide +kernel)
theorem dcX8_takeBoth_32 : decode cX8_takeBoth 32 = .ok (.iconst 4, 1) := dw_at cX8_takeBoth_k1 (p := 8) rfl (by decide +kernel)
theorem dcX8_takeBoth_33 : decode cX8_takeBoth 33 = .ok (.iload_n 1, 1) := dw_at cX8_takeBoth_k1 (p := 9) rfl (by decide +kernel)
theorem dcX8_takeBoth_34 : decode cX8_takeBoth 34 = .ok (.imul, 1) := dw_at cX8_takeBoth_k1 (p := 10) rfl (by decide +kernel)
theorem dcX8_takeBoth_35 : decode cX8_takeBoth 35 = .ok (.iconst 1, 1) := dw_at cX8_takeBoth_k1 (p := 11) rfl (by decide +kernel)
theorem dcX8_takeBoth_36 : decode cX8_takeBoth 36 = .ok (.iadd, 1) := dw_at cX8_takeBoth_k1 (p := 12) rfl (by decide +kernel)
theorem dcX8_takeBoth_37 : decode cX8_takeBoth 37 = .ok (.istore 5, 2) := dw_at cX8_takeBoth_k1 (p := 13) rfl (by decide +kernel)
theorem dcX8_takeBoth_39 : decode cX8_takeBoth 39 = .ok (.iconst 4, 1) := dw_at cX8_takeBoth_k1 (p := 15) rfl (by decide +kernel)
theorem dcX8_takeBoth_40 : decode cX8_takeBoth 40 = .ok (.iload_n 1, 1) := dw_at cX8_takeBoth_k1 (p := 16) rfl (by decide +kernel)
theorem dcX8_takeBoth_41 : decode cX8_takeBoth 41 = .ok (.imul, 1) := dw_at cX8_takeBoth_k1 (p := 17) rfl (by decide +kernel)
theorem dcX8_takeBoth_42 : decode cX8_takeBoth 42 = .ok (.iconst 2, 1) := dw_at cX8_takeBoth_k1 (p := 18) rfl (by decide +kernel)
theorem dcX8_takeBoth_43 : decode cX8_takeBoth 43 = .ok (.iadd, 1) := dw_at cX8_takeBoth_k1 (p := 19) rfl (by decide +kernel)
theorem dcX8_takeBoth_44 : decode cX8_takeBoth 44 = .ok (.istore 6, 2) := dw_at cX8_takeBoth_k1 (p := 20) rfl (by decide +kernel)
theorem dcX8_takeBoth_46 : decode cX8_takeBoth 46 = .ok (.iconst 4, 1) := dw_at cX8_takeBoth_k1 (p := 22) rfl (by decide +kernel)
theorem dcX8_takeBoth_47 : decode cX8_takeBoth 47 = .ok (.iload_n 1, 1) := dw_at cX8_takeBoth_k1 (p := 23) rfl (by decide +kernel)
theorem dcX8_takeBoth_48 : decode cX8_takeBoth 48 = .ok (.imul, 1) := dw_at cX8_takeBoth_k2 (p := 0) rfl (by decide +kernel)
theorem dcX8_takeBoth_49 : decode cX8_takeBoth 49 = .ok (.iconst 3, 1) := dw_at cX8_takeBoth_k2 (p := 1) rfl (by decide +kernel)
theorem dcX8_takeBoth_50 : decode cX8_takeBoth 50 = .ok (.iadd, 1) := dw_at cX8_takeBoth_k2 (p := 2) rfl (by decide +kernel)
theorem dcX8_takeBoth_51 : decode cX8_takeBoth 51 = .ok (.istore 7, 2) := dw_at cX8_takeBoth_k2 (p := 3) rfl (by decide +kernel)
theorem dcX8_takeBoth_53 : decode cX8_takeBoth 53 = .ok (.iconst 0, 1) := dw_at cX8_takeBoth_k2 (p := 5) rfl (by decide +kernel)
theorem dcX8_takeBoth_54 : decode cX8_takeBoth 54 = .ok (.istore 8, 2) := dw_at cX8_takeBoth_k2 (p := 6) rfl (by decide +kernel)
theorem dcX8_takeBoth_56 : decode cX8_takeBoth 56 = .ok (.iload 8, 2) := dw_at cX8_takeBoth_k2 (p := 8) rfl (by decide +kernel)
theorem dcX8_takeBoth_58 : decode cX8_takeBoth 58 = .ok (.iconst 2, 1) := dw_at cX8_takeBoth_k2 (p := 10) rfl (by decide +kernel)
theorem dcX8_takeBoth_59 : decode cX8_takeBoth 59 = .ok (.if_icmp .ge 124, 3) := dw_at cX8_takeBoth_k2 (p := 11) rfl (by decide +kernel)
theorem dcX8_takeBoth_62 : decode cX8_takeBoth 62 = .ok (.aload_n 0, 1) := dw_at cX8_takeBoth_k2 (p := 14) rfl (by decide +kernel)
theorem dcX8_takeBoth_63 : decode cX8_takeBoth 63 = .ok (.getfield 45, 3) := dw_at cX8_takeBoth_k2 (p := 15) rfl (by decide +kernel)
theorem dcX8_takeBoth_66 : decode cX8_takeBoth 66 = .ok (.getfield 83, 3) := dw_at cX8_takeBoth_k2 (p := 18) rfl (by decide +kernel)
theorem dcX8_takeBoth_69 : decode cX8_takeBoth 69 = .ok (.iload_n 1, 1) := dw_at cX8_takeBoth_k2 (p := 21) rfl (by decide +kernel)
theorem dcX8_takeBoth_70 : decode cX8_takeBoth 70 = .ok (.iaload, 1) := dw_at cX8_takeBoth_k2 (p := 22) rfl (by decide +kernel)
theorem dcX8_takeBoth_71 : decode cX8_takeBoth 71 = .ok (.ifCond .le 7, 3) := dw_at cX8_takeBoth_k2 (p := 23) rfl (by decide +kernel)
theorem dcX8_takeBoth_74 : decode cX8_takeBoth 74 = .ok (.iconst 1, 1) := dw_at cX8_takeBoth_k3 (p := 0) rfl (by decide +kernel)
theorem dcX8_takeBoth_75 : decode cX8_takeBoth 75 = .ok (.goto 4, 3) := dw_at cX8_takeBoth_k3 (p := 1) rfl (by decide +kernel)
theorem dcX8_takeBoth_78 : decode cX8_takeBoth 78 = .ok (.iconst 0, 1) := dw_at cX8_takeBoth_k3 (p := 4) rfl (by decide +kernel)
theorem dcX8_takeBoth_79 : decode cX8_takeBoth 79 = .ok (.iload 8, 2) := dw_at cX8_takeBoth_k3 (p := 5) rfl (by decide +kernel)
theorem dcX8_takeBoth_81 : decode cX8_takeBoth 81 = .ok (.ifCond .ne 7, 3) := dw_at cX8_takeBoth_k3 (p := 7) rfl (by decide +kernel)
theorem dcX8_takeBoth_84 : decode cX8_takeBoth 84 = .ok (.iconst 1, 1) := dw_at cX8_takeBoth_k3 (p := 10) rfl (by decide +kernel)
theorem dcX8_takeBoth_85 : decode cX8_takeBoth 85 = .ok (.goto 4, 3) := dw_at cX8_takeBoth_k3 (p := 11) rfl (by decide +kernel)
theorem dcX8_takeBoth_88 : decode cX8_takeBoth 88 = .ok (.iconst 0, 1) := dw_at cX8_takeBoth_k3 (p := 14) rfl (by decide +kernel)
theorem dcX8_takeBoth_89 : decode cX8_takeBoth 89 = .ok (.if_icmp .ne 7, 3) := dw_at cX8_takeBoth_k3 (p := 15) rfl (by decide +kernel)
theorem dcX8_takeBoth_92 : decode cX8_takeBoth 92 = .ok (.iconst 1, 1) := dw_at cX8_takeBoth_k3 (p := 18) rfl (by decide +kernel)
theorem dcX8_takeBoth_93 : decode cX8_takeBoth 93 = .ok (.goto 4, 3) := dw_at cX8_takeBoth_k3 (p := 19) rfl (by decide +kernel)
theorem dcX8_takeBoth_96 : decode cX8_takeBoth 96 = .ok (.iconst 0, 1) := dw_at cX8_takeBoth_k3 (p := 22) rfl (by decide +kernel)
theorem dcX8_takeBoth_97 : decode cX8_takeBoth 97 = .ok (.istore 9, 2) := dw_at cX8_takeBoth_k3 (p := 23) rfl (by decide +kernel)
theorem dcX8_takeBoth_99 : decode cX8_takeBoth 99 = .ok (.iload 9, 2) := dw_at cX8_takeBoth_k4 (p := 0) rfl (by decide +kernel)
theorem dcX8_takeBoth_101 : decode cX8_takeBoth 101 = .ok (.ifCond .eq 8, 3) := dw_at cX8_takeBoth_k4 (p := 2) rfl (by decide +kernel)
theorem dcX8_takeBoth_104 : decode cX8_takeBoth 104 = .ok (.iload 6, 2) := dw_at cX8_takeBoth_k4 (p := 5) rfl (by decide +kernel)
theorem dcX8_takeBoth_106 : decode cX8_takeBoth 106 = .ok (.goto 5, 3) := dw_at cX8_takeBoth_k4 (p := 7) rfl (by decide +kernel)
theorem dcX8_takeBoth_109 : decode cX8_takeBoth 109 = .ok (.iload 7, 2) := dw_at cX8_takeBoth_k4 (p := 10) rfl (by decide +kernel)
theorem dcX8_takeBoth_111 : decode cX8_takeBoth 111 = .ok (.istore 10, 2) := dw_at cX8_takeBoth_k4 (p := 12) rfl (by decide +kernel)
theorem dcX8_takeBoth_113 : decode cX8_takeBoth 113 = .ok (.iload 9, 2) := dw_at cX8_takeBoth_k4 (p := 14) rfl (by decide +kernel)
theorem dcX8_takeBoth_115 : decode cX8_takeBoth 115 = .ok (.ifCond .eq 8, 3) := dw_at cX8_takeBoth_k4 (p := 16) rfl (by decide +kernel)
theorem dcX8_takeBoth_118 : decode cX8_takeBoth 118 = .ok (.iload 7, 2) := dw_at cX8_takeBoth_k4 (p := 19) rfl (by decide +kernel)
theorem dcX8_takeBoth_120 : decode cX8_takeBoth 120 = .ok (.goto 5, 3) := dw_at cX8_takeBoth_k4 (p := 21) rfl (by decide +kernel)
theorem dcX8_takeBoth_123 : decode cX8_takeBoth 123 = .ok (.iload 6, 2) := dw_at cX8_takeBoth_k5 (p := 0) rfl (by decide +kernel)
theorem dcX8_takeBoth_125 : decode cX8_takeBoth 125 = .ok (.istore 11, 2) := dw_at cX8_takeBoth_k5 (p := 2) rfl (by decide +kernel)
theorem dcX8_takeBoth_127 : decode cX8_takeBoth 127 = .ok (.aload_n 0, 1) := dw_at cX8_takeBoth_k5 (p := 4) rfl (by decide +kernel)
theorem dcX8_takeBoth_128 : decode cX8_takeBoth 128 = .ok (.iload 5, 2) := dw_at cX8_takeBoth_k5 (p := 5) rfl (by decide +kernel)
theorem dcX8_takeBoth_130 : decode cX8_takeBoth 130 = .ok (.iload 10, 2) := dw_at cX8_takeBoth_k5 (p := 7) rfl (by decide +kernel)
theorem dcX8_takeBoth_132 : decode cX8_takeBoth 132 = .ok (.invokevirtual 130, 3) := dw_at cX8_takeBoth_k5 (p := 9) rfl (by decide +kernel)
theorem dcX8_takeBoth_135 : decode cX8_takeBoth 135 = .ok (.aload_n 0, 1) := dw_at cX8_takeBoth_k5 (p := 12) rfl (by decide +kernel)
theorem dcX8_takeBoth_136 : decode cX8_takeBoth 136 = .ok (.iload 4, 2) := dw_at cX8_takeBoth_k5 (p := 13) rfl (by decide +kernel)
theorem dcX8_takeBoth_138 : decode cX8_takeBoth 138 = .ok (.iload 11, 2) := dw_at cX8_takeBoth_k5 (p := 15) rfl (by decide +kernel)
theorem dcX8_takeBoth_140 : decode cX8_takeBoth 140 = .ok (.invokevirtual 130, 3) := dw_at cX8_takeBoth_k5 (p := 17) rfl (by decide +kernel)
theorem dcX8_takeBoth_143 : decode cX8_takeBoth 143 = .ok (.iadd, 1) := dw_at cX8_takeBoth_k5 (p := 20) rfl (by decide +kernel)
theorem dcX8_takeBoth_144 : decode cX8_takeBoth 144 = .ok (.istore 12, 2) := dw_at cX8_takeBoth_k5 (p := 21) rfl (by decide +kernel)
theorem dcX8_takeBoth_146 : decode cX8_takeBoth 146 = .ok (.aload_n 0, 1) := dw_at cX8_takeBoth_k5 (p := 23) rfl (by decide +kernel)
theorem dcX8_takeBoth_147 : decode cX8_takeBoth 147 = .ok (.iload_n 1, 1) := dw_at cX8_takeBoth_k6 (p := 0) rfl (by decide +kernel)
theorem dcX8_takeBoth_148 : decode cX8_takeBoth 148 = .ok (.iconst 1, 1) := dw_at cX8_takeBoth_k6 (p := 1) rfl (by decide +kernel)
theorem dcX8_takeBoth_149 : decode cX8_takeBoth 149 = .ok (.iadd, 1) := dw_at cX8_takeBoth_k6 (p := 2) rfl (by decide +kernel)
theorem dcX8_takeBoth_150 : decode cX8_takeBoth 150 = .ok (.iload_n 2, 1) := dw_at cX8_takeBoth_k6 (p := 3) rfl (by decide +kernel)
theorem dcX8_takeBoth_151 : decode cX8_takeBoth 151 = .ok (.iload 8, 2) := dw_at cX8_takeBoth_k6 (p := 4) rfl (by decide +kernel)
theorem dcX8_takeBoth_153 : decode cX8_takeBoth 153 = .ok (.iadd, 1) := dw_at cX8_takeBoth_k6 (p := 6) rfl (by decide +kernel)
theorem dcX8_takeBoth_154 : decode cX8_takeBoth 154 = .ok (.iload_n 3, 1) := dw_at cX8_takeBoth_k6 (p := 7) rfl (by decide +kernel)
theorem dcX8_takeBoth_155 : decode cX8_takeBoth 155 = .ok (.iload 12, 2) := dw_at cX8_takeBoth_k6 (p := 8) rfl (by decide +kernel)
theorem dcX8_takeBoth_157 : decode cX8_takeBoth 157 = .ok (.iadd, 1) := dw_at cX8_takeBoth_k6 (p := 10) rfl (by decide +kernel)
theorem dcX8_takeBoth_158 : decode cX8_takeBoth 158 = .ok (.invokevirtual 126, 3) := dw_at cX8_takeBoth_k6 (p := 11) rfl (by decide +kernel)
theorem dcX8_takeBoth_161 : decode cX8_takeBoth 161 = .ok (.aload_n 0, 1) := dw_at cX8_takeBoth_k6 (p := 14) rfl (by decide +kernel)
theorem dcX8_takeBoth_162 : decode cX8_takeBoth 162 = .ok (.iload 4, 2) := dw_at cX8_takeBoth_k6 (p := 15) rfl (by decide +kernel)
theorem dcX8_takeBoth_164 : decode cX8_takeBoth 164 = .ok (.iload 11, 2) := dw_at cX8_takeBoth_k6 (p := 17) rfl (by decide +kernel)
theorem dcX8_takeBoth_166 : decode cX8_takeBoth 166 = .ok (.invokevirtual 134, 3) := dw_at cX8_takeBoth_k6 (p := 19) rfl (by decide +kernel)
theorem dcX8_takeBoth_169 : decode cX8_takeBoth 169 = .ok (.aload_n 0, 1) := dw_at cX8_takeBoth_k6 (p := 22) rfl (by decide +kernel)
theorem dcX8_takeBoth_170 : decode cX8_takeBoth 170 = .ok (.iload 5, 2) := dw_at cX8_takeBoth_k6 (p := 23) rfl (by decide +kernel)
theorem dcX8_takeBoth_172 : decode cX8_takeBoth 172 = .ok (.iload 10, 2) := dw_at cX8_takeBoth_k7 (p := 0) rfl (by decide +kernel)
theorem dcX8_takeBoth_174 : decode cX8_takeBoth 174 = .ok (.invokevirtual 134, 3) := dw_at cX8_takeBoth_k7 (p := 2) rfl (by decide +kernel)
theorem dcX8_takeBoth_177 : decode cX8_takeBoth 177 = .ok (.iinc 8 1, 3) := dw_at cX8_takeBoth_k7 (p := 5) rfl (by decide +kernel)
theorem dcX8_takeBoth_180 : decode cX8_takeBoth 180 = .ok (.goto (-124), 3) := dw_at cX8_takeBoth_k7 (p := 8) rfl (by decide +kernel)
theorem dcX8_takeBoth_183 : decode cX8_takeBoth 183 = .ok (.return_, 1) := dw_at cX8_takeBoth_k7 (p := 11) rfl (by decide +kernel)
def cm_X8_takeBoth_0 (vl : Nat → Nat) (K : Nat) (self : Nat → Int32 → Int32 → Int32 → ow_MS → Option ow_MS) (go : Nat → Int32 → Int32 → Int32 → Int32 → Int32 → Int32 → Int32 → Int32 → Int32 → Int32 → Nat → Int32 → Int32 → ow_MS → Option ow_MS) (x1 : Int32) (x2 : Int32) (x3 : Int32) (x4 : Int32) (x5 : Int32) (x6 : Int32) (x7 : Int32) (x8 : Int32) (x9 : Int32) (x10 : Int32) (r0 : Nat) (t0 : Int32) (t1 : Int32) (z : ow_MS) : Option ow_MS :=
 rdF z ((r0 + 16000) + 8) fun v1 => (if x1 < v1 then go 1 x1 x2 x3 (4 * x1) ((4 * x1) + 1) ((4 * x1) + 2) ((4 * x1) + 3) 0 0 0 r0 0 0 z
 else crI (cX vl) z (r0 + 6) ((x2 * 24) + x3) fun v2 => ctI (cX vl) z (r0 + 6) ((x2 * 24) + x3) (v2 + 1) fun z3 => some z3)
def cm_X8_takeBoth_1 (vl : Nat → Nat) (K : Nat) (self : Nat → Int32 → Int32 → Int32 → ow_MS → Option ow_MS) (go : Nat → Int32 → Int32 → Int32 → Int32 → Int32 → Int32 → Int32 → Int32 → Int32 → Int32 → Nat → Int32 → Int32 → ow_MS → Option ow_MS) (x1 : Int32) (x2 : Int32) (x3 : Int32) (x4 : Int32) (x5 : Int32) (x6 : Int32) (x7 : Int32) (x8 : Int32) (x9 : Int32) (x10 : Int32) (r0 : Nat) (t0 : Int32) (t1 : Int32) (z : ow_MS) : Option ow_MS :=
 (if 2 ≤ x8 then some z
 else crI (cX vl) z ((r0 + 16000) + 3) x1 fun v4 => (if v4 ≤ 0 then go 2 x1 x2 x3 x4 x5 x6 x7 x8 0 0 r0 0 0 z
 else go 2 x1 x2 x3 x4 x5 x6 x7 x8 0 0 r0 1 0 z))
def cm_X8_takeBoth_2 (vl : Nat → Nat) (K : Nat) (self : Nat → Int32 → Int32 → Int32 → ow_MS → Option ow_MS) (go : Nat → Int32 → Int32 → Int32 → Int32 → Int32 → Int32 → Int32 → Int32 → Int32 → Int32 → Nat → Int32 → Int32 → ow_MS → Option ow_MS) (x1 : Int32) (x2 : Int32) (x3 : Int32) (x4 : Int32) (x5 : Int32) (x6 : Int32) (x7 : Int32) (x8 : Int32) (x9 : Int32) (x10 : Int32) (r0 : Nat) (t0 : Int32) (t1 : Int32) (z : ow_MS) : Option ow_MS :=
 (if x8 = 0 then go 3 x1 x2 x3 x4 x5 x6 x7 x8 0 0 r0 1 t0 z
 else go 3 x1 x2 x3 x4 x5 x6 x7 x8 0 0 r0 0 t0 z)
def cm_X8_takeBoth_3 (vl : Nat → Nat) (K : Nat) (self : Nat → Int32 → Int32 → Int32 → ow_MS → Option ow_MS) (go : Nat → Int32 → Int32 → Int32 → Int32 → Int32 → Int32 → Int32 → Int32 → Int32 → Int32 → Nat → Int32 → Int32 → ow_MS → Option ow_MS) (x1 : Int32) (x2 : Int32) (x3 : Int32) (x4 : Int32) (x5 : Int32) (x6 : Int32) (x7 : Int32) (x8 : Int32) (x9 : Int32) (x10 : Int32) (r0 : Nat) (t0 : Int32) (t1 : Int32) (z : ow_MS) : Option ow_MS :=
 (if t1 = t0 then go 4 x1 x2 x3 x4 x5 x6 x7 x8 0 0 r0 1 0 z
 else go 4 x1 x2 x3 x4 x5 x6 x7 x8 0 0 r0 0 0 z)
def cm_X8_takeBoth_4 (vl : Nat → Nat) (K : Nat) (self : Nat → Int32 → Int32 → Int32 → ow_MS → Option ow_MS) (go : Nat → Int32 → Int32 → Int32 → Int32 → Int32 → Int32 → Int32 → Int32 → Int32 → Int32 → Nat → Int32 → Int32 → ow_MS → Option ow_MS) (x1 : Int32) (x2 : Int32) (x3 : Int32) (x4 : Int32) (x5 : Int32) (x6 : Int32) (x7 : Int32) (x8 : Int32) (x9 : Int32) (x10 : Int32) (r0 : Nat) (t0 : Int32) (t1 : Int32) (z : ow_MS) : Option ow_MS :=
 (if t0 = 0 then go 5 x1 x2 x3 x4 x5 x6 x7 x8 t0 0 r0 x7 0 z
 else go 5 x1 x2 x3 x4 x5 x6 x7 x8 t0 0 r0 x6 0 z)
def cm_X8_takeBoth_5 (vl : Nat → Nat) (K : Nat) (self : Nat → Int32 → Int32 → Int32 → ow_MS → Option ow_MS) (go : Nat → Int32 → Int32 → Int32 → Int32 → Int32 → Int32 → Int32 → Int32 → Int32 → Int32 → Nat → Int32 → Int32 → ow_MS → Option ow_MS) (x1 : Int32) (x2 : Int32) (x3 : Int32) (x4 : Int32) (x5 : Int32) (x6 : Int32) (x7 : Int32) (x8 : Int32) (x9 : Int32) (x10 : Int32) (r0 : Nat) (t0 : Int32) (t1 : Int32) (z : ow_MS) : Option ow_MS :=
 (if x9 = 0 then go 6 x1 x2 x3 x4 x5 x6 x7 x8 x9 t0 r0 x6 0 z
 else go 6 x1 x2 x3 x4 x5 x6 x7 x8 x9 t0 r0 x7 0 z)
def cm_X8_takeBoth_6 (vl : Nat → Nat) (K : Nat) (self : Nat → Int32 → Int32 → Int32 → ow_MS → Option ow_MS) (go : Nat → Int32 → Int32 → Int32 → Int32 → Int32 → Int32 → Int32 → Int32 → Int32 → Int32 → Nat → Int32 → Int32 → ow_MS → Option ow_MS) (x1 : Int32) (x2 : Int32) (x3 : Int32) (x4 : Int32) (x5 : Int32) (x6 : Int32) (x7 : Int32) (x8 : Int32) (x9 : Int32) (x10 : Int32) (r0 : Nat) (t0 : Int32) (t1 : Int32) (z : ow_MS) : Option ow_MS :=
 cs1 (ce_X8_tie vl K r0 x5 x10 z) fun v6 z5 => cs1 (ce_X8_tie vl K r0 x4 t0 z5) fun v8 z7 => cs0 (self r0 (x1 + 1) (x2 + x8) (x3 + (v6 + v8)) z7) fun z9 => cs0 (ce_X8_untie vl K r0 x4 t0 z9) fun z10 => cs0 (ce_X8_untie vl K r0 x5 x10 z10) fun z11 => go 1 x1 x2 x3 x4 x5 x6 x7 (x8 + 1) 0 0 r0 0 0 z11
def cb_X8_takeBoth (vl : Nat → Nat) (K : Nat) (self : Nat → Int32 → Int32 → Int32 → ow_MS → Option ow_MS) (go : Nat → Int32 → Int32 → Int32 → Int32 → Int32 → Int32 → Int32 → Int32 → Int32 → Int32 → Nat → Int32 → Int32 → ow_MS → Option ow_MS) (L : Nat) (x1 : Int32) (x2 : Int32) (x3 : Int32) (x4 : Int32) (x5 : Int32) (x6 : Int32) (x7 : Int32) (x8 : Int32) (x9 : Int32) (x10 : Int32) (r0 : Nat) (t0 : Int32) (t1 : Int32) (z : ow_MS) : Option ow_MS := match L with
  | 0 => cm_X8_takeBoth_0 vl K self go x1 x2 x3 x4 x5 x6 x7 x8 x9 x10 r0 t0 t1 z
  | 1 => cm_X8_takeBoth_1 vl K self go x1 x2 x3 x4 x5 x6 x7 x8 x9 x10 r0 t0 t1 z
  | 2 => cm_X8_takeBoth_2 vl K self go x1 x2 x3 x4 x5 x6 x7 x8 x9 x10 r0 t0 t1 z
  | 3 => cm_X8_takeBoth_3 vl K self go x1 x2 x3 x4 x5 x6 x7 x8 x9 x10 r0 t0 t1 z
  | 4 => cm_X8_takeBoth_4 vl K self go x1 x2 x3 x4 x5 x6 x7 x8 x9 x10 r0 t0 t1 z
  | 5 => cm_X8_takeBoth_5 vl K self go x1 x2 x3 x4 x5 x6 x7 x8 x9 x10 r0 t0 t1 z
  | 6 => cm_X8_takeBoth_6 vl K self go x1 x2 x3 x4 x5 x6 x7 x8 x9 x10 r0 t0 t1 z
  | _ => none
def c_X8_takeBoth (vl : Nat → Nat) (K : Nat) (self : Nat → Int32 → Int32 → Int32 → ow_MS → Option ow_MS) : Nat → Nat → Int32 → Int32 → Int32 → Int32 → Int32 → Int32 → Int32 → Int32 → Int32 → Int32 → Nat → Int32 → Int32 → ow_MS → Option ow_MS
  | 0 => fun _ _ _ _ _ _ _ _ _ _ _ _ _ _ _ => none
  | k + 1 => cb_X8_takeBoth vl K self (c_X8_takeBoth vl K self k)
def cd0_X8_takeBoth (vl : Nat → Nat) (K : Nat) : Nat → Nat → Int32 → Int32 → Int32 → ow_MS → Option ow_MS
  | 0 => fun _ _ _ _ _ => none
  | d + 1 => fun r0 x1 x2 x3 z => c_X8_takeBoth vl K (cd0_X8_takeBoth vl K d) K 0 x1 x2 x3 0 0 0 0 0 0 0 r0 0 0 z
def ce_X8_takeBoth (vl : Nat → Nat) (K : Nat) (r0 : Nat) (x1 : Int32) (x2 : Int32) (x3 : Int32) (z : ow_MS) : Option ow_MS := cd0_X8_takeBoth vl K 14 r0 x1 x2 x3 z
abbrev wc_X8_takeBoth : List Cond := .code yX8_takeBoth cX8_takeBoth 13 none :: wC
theorem cdd_X8_takeBoth : yX8_takeBoth.cls = RX8 ∧ yX8_takeBoth.cls ≠ "java/lang/invoke/MethodHandle" ∧ yX8_takeBoth.cls ≠ "java/lang/invoke/VarHandle" ∧ (parseMethodDescriptor yX8_takeBoth.desc).map (fun d => d.parameters.length) = some 3 := by decide +kernel
set_option maxHeartbeats 4000000 in
set_option maxRecDepth 100000 in
theorem kcd_X8_takeBoth (l : Launch) (D : va_G) (q : Nat → ClassId) (vl u : Nat → Nat) (hU0 : tw_inj (cX vl) u) (K : Nat) (d : Nat) : ∀ (r0 : Nat) (x1 : Int32) (x2 : Int32) (x3 : Int32) (hr0 : cw_X8 r0) (z z1 : ow_MS) (_ : cd0_X8_takeBoth vl K d r0 x1 x2 x3 z = some z1), Met l yX8_takeBoth wc_X8_takeBoth ({ frames := 1 + d, cells := 0, slots := 0, locals := 22 + d * 32 } : Room) (va_Pc [.ref (u r0), .int x1, .int x2, .int x3] (cw_pre D q vl u z)) (va_Qv (fun (_ : Unit) => True) (fun _ t => va_P D vwCl (uw (cX vl) q u z1) t.heap) (tw_A (cX vl) u)) 0 0 (tw_A (cX vl) u) := by
  induction d with
  | zero =>
    intro r0 x1 x2 x3 hr0 z z1 hq
    exact cw_no hq
  | succ d ihd =>
    intro r0 x1 x2 x3 hr0 z z1 hq
    have hq : c_X8_takeBoth vl K (cd0_X8_takeBoth vl K d) K 0 x1 x2 x3 0 0 0 0 0 0 0 r0 0 0 z = some z1 := hq
    refine Met.ofW (cc := cX8_takeBoth) (maxL := 13) (ret := none) (by decide) rfl ?_
    intro p e s m args below meth c s₁ B hml hv
    obtain ⟨rfl, hP, hK⟩ := hv
    have hx := B.exec
    have hb := B.bytes
    have hr := B.returns
    have hts := atoms_spec (ws := wc_X8_takeBoth) B.pre
    have hT : ∀ w ∈ wC, w.before ([.ref (u r0), .int x1, .int x2, .int x3] : List Value).toArray s = true := fun w h => hts w (List.mem_cons_of_mem _ h)
    have hown : s.vm.findClass RX8 = some m.cls := findClass_of_methodNamed B.named
    have hlocks := B.notSynchronized
    have hU : uw_inj (cX vl) u (tw_A (cX vl) u) := ⟨hU0, fun h hh => ⟨h, hh, rfl⟩⟩
    have hM : uw_M D vwCl (cX vl) q (tw_A (cX vl) u) s.heap u z s.heap [] := ⟨hP, va_S.rf⟩
    have hl := lv_entry ([.ref (u r0), .int x1, .int x2, .int x3]) (n := 13) (Nat.le_of_ble_eq_true rfl)
    rw [lg_entry_eq]
    generalize (lg_sl ([.ref (u r0), .int x1, .int x2, .int x3]) ++ List.replicate (13 - (lg_sl ([.ref (u r0), .int x1, .int x2, .int x3])).length) Slot.unset).toArray = ls at hl ⊢
    have hl : lv_has ls 13 [(0, .ref (u r0)), (1, .int x1), (2, .int x2), (3, .int x3)] := hl
    refine ow_named (fun QQ hQQ => ?_)
    generalize ([.ref (u r0), .int x1, .int x2, .int x3] : List Value).toArray = args at hts hT hQQ ⊢
    have key : ∀ k : Nat, (∀ (x1 : Int32) (x2 : Int32) (x3 : Int32) (x4 : Int32) (x5 : Int32) (x6 : Int32) (x7 : Int32) (x8 : Int32) (x9 : Int32) (x10 : Int32) (r0 : Nat) (t0 : Int32) (t1 : Int32) (z : ow_MS) (H : Heap) (locs : List Loc) (ls : Array Slot), cw_X8 r0 → uw_M D vwCl (cX vl) q (tw_A (cX vl) u) s.heap u z H locs → lv_has ls 13 [(0, .ref (u r0)), (1, .int x1), (2, .int x2), (3, .int x3)] → c_X8_takeBoth vl K (cd0_X8_takeBoth vl K d) k 0 x1 x2 x3 x4 x5 x6 x7 x8 x9 x10 r0 t0 t1 z = some z1 → W p l e ({ frames := 1 + (d + 1), cells := 0, slots := 0, locals := 22 + (d + 1) * 32 } : Room) s m args below meth c H locs 0 0 QQ (F0 m 0 ls [])) ∧ (∀ (x1 : Int32) (x2 : Int32) (x3 : Int32) (x4 : Int32) (x5 : Int32) (x6 : Int32) (x7 : Int32) (x8 : Int32) (x9 : Int32) (x10 : Int32) (r0 : Nat) (t0 : Int32) (t1 : Int32) (z : ow_MS) (H : Heap) (locs : List Loc) (ls : Array Slot), cw_X8 r0 → uw_M D vwCl (cX vl) q (tw_A (cX vl) u) s.heap u z H locs → lv_has ls 13 [(0, .ref (u r0)), (1, .int x1), (2, .int x2), (3, .int x3), (4, .int x4), (5, .int x5), (6, .int x6), (7, .int x7), (8, .int x8)] → c_X8_takeBoth vl K (cd0_X8_takeBoth vl K d) k 1 x1 x2 x3 x4 x5 x6 x7 x8 x9 x10 r0 t0 t1 z = some z1 → W p l e ({ frames := 1 + (d + 1), cells := 0, slots := 0, locals := 22 + (d + 1) * 32 } : Room) s m args below meth c H locs 0 0 QQ (F0 m 56 ls [])) ∧ (∀ (x1 : Int32) (x2 : Int32) (x3 : Int32) (x4 : Int32) (x5 : Int32) (x6 : Int32) (x7 : Int32) (x8 : Int32) (x9 : Int32) (x10 : Int32) (r0 : Nat) (t0 : Int32) (t1 : Int32) (z : ow_MS) (H : Heap) (locs : List Loc) (ls : Array Slot), cw_X8 r0 → uw_M D vwCl (cX vl) q (tw_A (cX vl) u) s.heap u z H locs → lv_has ls 13 [(0, .ref (u r0)), (1, .int x1), (2, .int x2), (3, .int x3), (4, .int x4), (5, .int x5), (6, .int x6), (7, .int x7), (8, .int x8)] → c_X8_takeBoth vl K (cd0_X8_takeBoth vl K d) k 2 x1 x2 x3 x4 x5 x6 x7 x8 x9 x10 r0 t0 t1 z = some z1 → W p l e ({ frames := 1 + (d + 1), cells := 0, slots := 0, locals := 22 + (d + 1) * 32 } : Room) s m args below meth c H locs 0 0 QQ (F0 m 79 ls [.int t0])) ∧ (∀ (x1 : Int32) (x2 : Int32) (x3 : Int32) (x4 : Int32) (x5 : Int32) (x6 : Int32) (x7 : Int32) (x8 : Int32) (x9 : Int32) (x10 : Int32) (r0 : Nat) (t0 : Int32) (t1 : Int32) (z : ow_MS) (H : Heap) (locs : List Loc) (ls : Array Slot), cw_X8 r0 → uw_M D vwCl (cX vl) q (tw_A (cX vl) u) s.heap u z H locs → lv_has ls 13 [(0, .ref (u r0)), (1, .int x1), (2, .int x2), (3, .int x3), (4, .int x4), (5, .int x5), (6, .int x6), (7, .int x7), (8, .int x8)] → c_X8_takeBoth vl K (cd0_X8_takeBoth vl K d) k 3 x1 x2 x3 x4 x5 x6 x7 x8 x9 x10 r0 t0 t1 z = some z1 → W p l e ({ frames := 1 + (d + 1), cells := 0, slots := 0, locals := 22 + (d + 1) * 32 } : Room) s m args below meth c H locs 0 0 QQ (F0 m 89 ls [.int t0, .int t1])) ∧ (∀ (x1 : Int32) (x2 : Int32) (x3 : Int32) (x4 : Int32) (x5 : Int32) (x6 : Int32) (x7 : Int32) (x8 : Int32) (x9 : Int32) (x10 : Int32) (r0 : Nat) (t0 : Int32) (t1 : Int32) (z : ow_MS) (H : Heap) (locs : List Loc) (ls : Array Slot), cw_X8 r0 → uw_M D vwCl (cX vl) q (tw_A (cX vl) u) s.heap u z H locs → lv_has ls 13 [(0, .ref (u r0)), (1, .int x1), (2, .int x2), (3, .int x3), (4, .int x4), (5, .int x5), (6, .int x6), (7, .int x7), (8, .int x8)] → c_X8_takeBoth vl K (cd0_X8_takeBoth vl K d) k 4 x1 x2 x3 x4 x5 x6 x7 x8 x9 x10 r0 t0 t1 z = some z1 → W p l e ({ frames := 1 + (d + 1), cells := 0, slots := 0, locals := 22 + (d + 1) * 32 } : Room) s m args below meth c H locs 0 0 QQ (F0 m 97 ls [.int t0])) ∧ (∀ (x1 : Int32) (x2 : Int32) (x3 : Int32) (x4 : Int32) (x5 : Int32) (x6 : Int32) (x7 : Int32) (x8 : Int32) (x9 : Int32) (x10 : Int32) (r0 : Nat) (t0 : Int32) (t1 : Int32) (z : ow_MS) (H : Heap) (locs : List Loc) (ls : Array Slot), cw_X8 r0 → uw_M D vwCl (cX vl) q (tw_A (cX vl) u) s.heap u z H locs → lv_has ls 13 [(0, .ref (u r0)), (1, .int x1), (2, .int x2), (3, .int x3), (4, .int x4), (5, .int x5), (6, .int x6), (7, .int x7), (8, .int x8), (9, .int x9)] → c_X8_takeBoth vl K (cd0_X8_takeBoth vl K d) k 5 x1 x2 x3 x4 x5 x6 x7 x8 x9 x10 r0 t0 t1 z = some z1 → W p l e ({ frames := 1 + (d + 1), cells := 0, slots := 0, locals := 22 + (d + 1) * 32 } : Room) s m args below meth c H locs 0 0 QQ (F0 m 111 ls [.int t0])) ∧ (∀ (x1 : Int32) (x2 : Int32) (x3 : Int32) (x4 : Int32) (x5 : Int32) (x6 : Int32) (x7 : Int32) (x8 : Int32) (x9 : Int32) (x10 : Int32) (r0 : Nat) (t0 : Int32) (t1 : Int32) (z : ow_MS) (H : Heap) (locs : List Loc) (ls : Array Slot), cw_X8 r0 → uw_M D vwCl (cX vl) q (tw_A (cX vl) u) s.heap u z H locs → lv_has ls 13 [(0, .ref (u r0)), (1, .int x1), (2, .int x2), (3, .int x3), (4, .int x4), (5, .int x5), (6, .int x6), (7, .int x7), (8, .int x8), (9, .int x9), (10, .int x10)] → c_X8_takeBoth vl K (cd0_X8_takeBoth vl K d) k 6 x1 x2 x3 x4 x5 x6 x7 x8 x9 x10 r0 t0 t1 z = some z1 → W p l e ({ frames := 1 + (d + 1), cells := 0, slots := 0, locals := 22 + (d + 1) * 32 } : Room) s m args below meth c H locs 0 0 QQ (F0 m 125 ls [.int t0])) := by
      intro k
      induction k with
      | zero => exact ⟨fun _ _ _ _ _ _ _ _ _ _ _ _ _ _ _ _ _ _ _ _ hq => cw_no hq, fun _ _ _ _ _ _ _ _ _ _ _ _ _ _ _ _ _ _ _ _ hq => cw_no hq, fun _ _ _ _ _ _ _ _ _ _ _ _ _ _ _ _ _ _ _ _ hq => cw_no hq, fun _ _ _ _ _ _ _ _ _ _ _ _ _ _ _ _ _ _ _ _ hq => cw_no hq, fun _ _ _ _ _ _ _ _ _ _ _ _ _ _ _ _ _ _ _ _ hq => cw_no hq, fun _ _ _ _ _ _ _ _ _ _ _ _ _ _ _ _ _ _ _ _ hq => cw_no hq, fun _ _ _ _ _ _ _ _ _ _ _ _ _ _ _ _ _ _ _ _ hq => cw_no hq⟩
      | succ k ih =>
        obtain ⟨ih_0, ih_1, ih_2, ih_3, ih_4, ih_5, ih_6⟩ := ih
        refine ⟨?_, ?_, ?_, ?_, ?_, ?_, ?_⟩
        · intro x1 x2 x3 x4 x5 x6 x7 x8 x9 x10 r0 t0 t1 z H locs ls hr0 hM hl hq
          have hq : cm_X8_takeBoth_0 vl K (cd0_X8_takeBoth vl K d) (c_X8_takeBoth vl K (cd0_X8_takeBoth vl K d) k) x1 x2 x3 x4 x5 x6 x7 x8 x9 x10 r0 t0 t1 z = some z1 := hq
          unfold cm_X8_takeBoth_0 at hq
          refine lv_iload_n hx hb dcX8_takeBoth_0 rfl (lv_at hl 1 rfl) ?_
          refine lv_aload_n hx hb dcX8_takeBoth_1 rfl (lv_at hl 0 rfl) ?_
          refine vgX8_45 hx hb hT hown hK hM hr0 dcX8_takeBoth_2 ?_
          refine vgX8_79 hx hb hT hown hK hM (cs_X8_7 hr0) hq dcX8_takeBoth_5 (fun v1 hq => ?_)
          refine lv_icmp_lt (tgt := 27) hx hb dcX8_takeBoth_8 (by decide) (fun hc => ?_) (fun hc => ?_)
          · have hq := tw_it hq hc
            refine lv_iconst (v := 4) hx hb dcX8_takeBoth_27 (by decide) ?_
            refine lv_iload_n hx hb dcX8_takeBoth_28 rfl (lv_at hl 1 rfl) ?_
            refine lv_imul hx hb dcX8_takeBoth_29 ?_
            refine lv_istore (lv' := [(4, .int (4 * x1)), (0, .ref (u r0)), (1, .int x1), (2, .int x2), (3, .int x3)]) hx hb dcX8_takeBoth_30 hl (by decide) rfl (fun ls hl => ?_)
            refine lv_iconst (v := 4) hx hb dcX8_takeBoth_32 (by decide) ?_
            refine lv_iload_n hx hb dcX8_takeBoth_33 rfl (lv_at hl 2 rfl) ?_
            refine lv_imul hx hb dcX8_takeBoth_34 ?_
            refine lv_iconst (v := 1) hx hb dcX8_takeBoth_35 (by decide) ?_
            refine lv_iadd hx hb dcX8_takeBoth_36 ?_
            refine lv_istore (lv' := [(5, .int ((4 * x1) + 1)), (4, .int (4 * x1)), (0, .ref (u r0)), (1, .int x1), (2, .int x2), (3, .int x3)]) hx hb dcX8_takeBoth_37 hl (by decide) rfl (fun ls hl => ?_)
            refine lv_iconst (v := 4) hx hb dcX8_takeBoth_39 (by decide) ?_
            refine lv_iload_n hx hb dcX8_takeBoth_40 rfl (lv_at hl 3 rfl) ?_
            refine lv_imul hx hb dcX8_takeBoth_41 ?_
            refine lv_iconst (v := 2) hx hb dcX8_takeBoth_42 (by decide) ?_
            refine lv_iadd hx hb dcX8_takeBoth_43 ?_
            refine lv_istore (lv' := [(6, .int ((4 * x1) + 2)), (5, .int ((4 * x1) + 1)), (4, .int (4 * x1)), (0, .ref (u r0)), (1, .int x1), (2, .int x2), (3, .int x3)]) hx hb dcX8_takeBoth_44 hl (by decide) rfl (fun ls hl => ?_)
            refine lv_iconst (v := 4) hx hb dcX8_takeBoth_46 (by decide) ?_
            refine lv_iload_n hx hb dcX8_takeBoth_47 rfl (lv_at hl 4 rfl) ?_
            refine lv_imul hx hb dcX8_takeBoth_48 ?_
            refine lv_iconst (v := 3) hx hb dcX8_takeBoth_49 (by decide) ?_
            refine lv_iadd hx hb dcX8_takeBoth_50 ?_
            refine lv_istore (lv' := [(7, .int ((4 * x1) + 3)), (6, .int ((4 * x1) + 2)), (5, .int ((4 * x1) + 1)), (4, .int (4 * x1)), (0, .ref (u r0)), (1, .int x1), (2, .int x2), (3, .int x3)]) hx hb dcX8_takeBoth_51 hl (by decide) rfl (fun ls hl => ?_)
            refine lv_iconst (v := 0) hx hb dcX8_takeBoth_53 (by decide) ?_
            refine lv_istore (lv' := [(8, .int 0), (7, .int ((4 * x1) + 3)), (6, .int ((4 * x1) + 2)), (5, .int ((4 * x1) + 1)), (4, .int (4 * x1)), (0, .ref (u r0)), (1, .int x1), (2, .int x2), (3, .int x3)]) hx hb dcX8_takeBoth_54 hl (by decide) rfl (fun ls hl => ?_)
            exact ih_1 x1 x2 x3 (4 * x1) ((4 * x1) + 1) ((4 * x1) + 2) ((4 * x1) + 3) 0 0 0 r0 0 0 z H locs ls hr0 hM (lv_sub hl [5, 6, 7, 8, 4, 3, 2, 1, 0] rfl) hq
          · have hq := tw_if hq hc
            refine lv_aload_n hx hb dcX8_takeBoth_11 rfl (lv_at hl 0 rfl) ?_
            refine vgX8_38 hx hb hT hown hK hM hr0 dcX8_takeBoth_12 ?_
            refine lv_iload_n hx hb dcX8_takeBoth_15 rfl (lv_at hl 2 rfl) ?_
            refine lv_bipush (v := 24) hx hb dcX8_takeBoth_16 (by decide) ?_
            refine lv_imul hx hb dcX8_takeBoth_18 ?_
            refine lv_iload_n hx hb dcX8_takeBoth_19 rfl (lv_at hl 3 rfl) ?_
            refine lv_iadd hx hb dcX8_takeBoth_20 ?_
            refine lv_dup2_11 hx hb dcX8_takeBoth_21 rfl rfl ?_
            refine uw_iald cX_ok hx hb hK hM (cr_X8_5 hr0) hq dcX8_takeBoth_22 (fun v2 hq => ?_)
            refine lv_iconst (v := 1) hx hb dcX8_takeBoth_23 (by decide) ?_
            refine lv_iadd hx hb dcX8_takeBoth_24 ?_
            refine uw_iast cX_ok hU hx hb hK hM (cr_X8_5 hr0) hq dcX8_takeBoth_25 (fun z3 H locs hM hq => ?_)
            exact cw_vret hx hb hr hlocks hM hq hQQ dcX8_takeBoth_26
        · intro x1 x2 x3 x4 x5 x6 x7 x8 x9 x10 r0 t0 t1 z H locs ls hr0 hM hl hq
          have hq : cm_X8_takeBoth_1 vl K (cd0_X8_takeBoth vl K d) (c_X8_takeBoth vl K (cd0_X8_takeBoth vl K d) k) x1 x2 x3 x4 x5 x6 x7 x8 x9 x10 r0 t0 t1 z = some z1 := hq
          unfold cm_X8_takeBoth_1 at hq
          refine lv_iload hx hb dcX8_takeBoth_56 (lv_at hl 8 rfl) ?_
          refine lv_iconst (v := 2) hx hb dcX8_takeBoth_58 (by decide) ?_
          refine lv_icmp_ge (tgt := 183) hx hb dcX8_takeBoth_59 (by decide) (fun hc => ?_) (fun hc => ?_)
          · have hq := tw_it hq hc
            exact cw_vret hx hb hr hlocks hM hq hQQ dcX8_takeBoth_183
          · have hq := tw_if hq hc
            refine lv_aload_n hx hb dcX8_takeBoth_62 rfl (lv_at hl 0 rfl) ?_
            refine vgX8_45 hx hb hT hown hK hM hr0 dcX8_takeBoth_63 ?_
            refine vgX8_83 hx hb hT hown hK hM (cs_X8_7 hr0) dcX8_takeBoth_66 ?_
            refine lv_iload_n hx hb dcX8_takeBoth_69 rfl (lv_at hl 1 rfl) ?_
            refine uw_iald cX_ok hx hb hK hM (cr_X7_2 (cs_X8_7 hr0)) hq dcX8_takeBoth_70 (fun v4 hq => ?_)
            refine lv_if_le (tgt := 78) hx hb dcX8_takeBoth_71 (by decide) (fun hc => ?_) (fun hc => ?_)
            · have hq := tw_it hq hc
              refine lv_iconst (v := 0) hx hb dcX8_takeBoth_78 (by decide) ?_
              exact ih_2 x1 x2 x3 x4 x5 x6 x7 x8 0 0 r0 0 0 z H locs ls hr0 hM (lv_sub hl [0, 1, 2, 3, 4, 5, 6, 7, 8] rfl) hq
            · have hq := tw_if hq hc
              refine lv_iconst (v := 1) hx hb dcX8_takeBoth_74 (by decide) ?_
              refine lv_goto (tgt := 79) hx hb dcX8_takeBoth_75 (by decide) ?_
              exact ih_2 x1 x2 x3 x4 x5 x6 x7 x8 0 0 r0 1 0 z H locs ls hr0 hM (lv_sub hl [0, 1, 2, 3, 4, 5, 6, 7, 8] rfl) hq
        · intro x1 x2 x3 x4 x5 x6 x7 x8 x9 x10 r0 t0 t1 z H locs ls hr0 hM hl hq
          have hq : cm_X8_takeBoth_2 vl K (cd0_X8_takeBoth vl K d) (c_X8_takeBoth vl K (cd0_X8_takeBoth vl K d) k) x1 x2 x3 x4 x5 x6 x7 x8 x9 x10 r0 t0 t1 z = some z1 := hq
          unfold cm_X8_takeBoth_2 at hq
          refine lv_iload hx hb dcX8_takeBoth_79 (lv_at hl 8 rfl) ?_
          refine lv_if_ne (tgt := 88) hx hb dcX8_takeBoth_81 (by decide) (fun hc => ?_) (fun hc => ?_)
          · have hq := tw_if hq hc
            refine lv_iconst (v := 0) hx hb dcX8_takeBoth_88 (by decide) ?_
            exact ih_3 x1 x2 x3 x4 x5 x6 x7 x8 0 0 r0 0 t0 z H locs ls hr0 hM (lv_sub hl [0, 1, 2, 3, 4, 5, 6, 7, 8] rfl) hq
          · have hq := tw_it hq hc
            refine lv_iconst (v := 1) hx hb dcX8_takeBoth_84 (by decide) ?_
            refine lv_goto (tgt := 89) hx hb dcX8_takeBoth_85 (by decide) ?_
            exact ih_3 x1 x2 x3 x4 x5 x6 x7 x8 0 0 r0 1 t0 z H locs ls hr0 hM (lv_sub hl [0, 1, 2, 3, 4, 5, 6, 7, 8] rfl) hq
        · intro x1 x2 x3 x4 x5 x6 x7 x8 x9 x10 r0 t0 t1 z H locs ls hr0 hM hl hq
          have hq : cm_X8_takeBoth_3 vl K (cd0_X8_takeBoth vl K d) (c_X8_takeBoth vl K (cd0_X8_takeBoth vl K d) k) x1 x2 x3 x4 x5 x6 x7 x8 x9 x10 r0 t0 t1 z = some z1 := hq
          unfold cm_X8_takeBoth_3 at hq
          refine lv_icmp_ne (tgt := 96) hx hb dcX8_takeBoth_89 (by decide) (fun hc => ?_) (fun hc => ?_)
          · have hq := tw_if hq hc
            refine lv_iconst (v := 0) hx hb dcX8_takeBoth_96 (by decide) ?_
            exact ih_4 x1 x2 x3 x4 x5 x6 x7 x8 0 0 r0 0 0 z H locs ls hr0 hM (lv_sub hl [0, 1, 2, 3, 4, 5, 6, 7, 8] rfl) hq
          · have hq := tw_it hq hc
            refine lv_iconst (v := 1) hx hb dcX8_takeBoth_92 (by decide) ?_
            refine lv_goto (tgt := 97) hx hb dcX8_takeBoth_93 (by decide) ?_
            exact ih_4 x1 x2 x3 x4 x5 x6 x7 x8 0 0 r0 1 0 z H locs ls hr0 hM (lv_sub hl [0, 1, 2, 3, 4, 5, 6, 7, 8] rfl) hq
        · intro x1 x2 x3 x4 x5 x6 x7 x8 x9 x10 r0 t0 t1 z H locs ls hr0 hM hl hq
          have hq : cm_X8_takeBoth_4 vl K (cd0_X8_takeBoth vl K d) (c_X8_takeBoth vl K (cd0_X8_takeBoth vl K d) k) x1 x2 x3 x4 x5 x6 x7 x8 x9 x10 r0 t0 t1 z = some z1 := hq
          unfold cm_X8_takeBoth_4 at hq
          refine lv_istore (lv' := [(9, .int t0), (0, .ref (u r0)), (1, .int x1), (2, .int x2), (3, .int x3), (4, .int x4), (5, .int x5), (6, .int x6), (7, .int x7), (8, .int x8)]) hx hb dcX8_takeBoth_97 hl (by decide) rfl (fun ls hl => ?_)
          refine lv_iload hx hb dcX8_takeBoth_99 (lv_at hl 0 rfl) ?_
          refine lv_if_eq (tgt := 109) hx hb dcX8_takeBoth_101 (by decide) (fun hc => ?_) (fun hc => ?_)
          · have hq := tw_it hq hc
            refine lv_iload hx hb dcX8_takeBoth_109 (lv_at hl 8 rfl) ?_
            exact ih_5 x1 x2 x3 x4 x5 x6 x7 x8 t0 0 r0 x7 0 z H locs ls hr0 hM (lv_sub hl [1, 2, 3, 4, 5, 6, 7, 8, 9, 0] rfl) hq
          · have hq := tw_if hq hc
            refine lv_iload hx hb dcX8_takeBoth_104 (lv_at hl 7 rfl) ?_
            refine lv_goto (tgt := 111) hx hb dcX8_takeBoth_106 (by decide) ?_
            exact ih_5 x1 x2 x3 x4 x5 x6 x7 x8 t0 0 r0 x6 0 z H locs ls hr0 hM (lv_sub hl [1, 2, 3, 4, 5, 6, 7, 8, 9, 0] rfl) hq
        · intro x1 x2 x3 x4 x5 x6 x7 x8 x9 x10 r0 t0 t1 z H locs ls hr0 hM hl hq
          have hq : cm_X8_takeBoth_5 vl K (cd0_X8_takeBoth vl K d) (c_X8_takeBoth vl K (cd0_X8_takeBoth vl K d) k) x1 x2 x3 x4 x5 x6 x7 x8 x9 x10 r0 t0 t1 z = some z1 := hq
          unfold cm_X8_takeBoth_5 at hq
          refine lv_istore (lv' := [(10, .int t0), (0, .ref (u r0)), (1, .int x1), (2, .int x2), (3, .int x3), (4, .int x4), (5, .int x5), (6, .int x6), (7, .int x7), (8, .int x8), (9, .int x9)]) hx hb dcX8_takeBoth_111 hl (by decide) rfl (fun ls hl => ?_)
          refine lv_iload hx hb dcX8_takeBoth_113 (lv_at hl 10 rfl) ?_
          refine lv_if_eq (tgt := 123) hx hb dcX8_takeBoth_115 (by decide) (fun hc => ?_) (fun hc => ?_)
          · have hq := tw_it hq hc
            refine lv_iload hx hb dcX8_takeBoth_123 (lv_at hl 7 rfl) ?_
            exact ih_6 x1 x2 x3 x4 x5 x6 x7 x8 x9 t0 r0 x6 0 z H locs ls hr0 hM (lv_sub hl [1, 2, 3, 4, 5, 6, 7, 8, 9, 10, 0] rfl) hq
          · have hq := tw_if hq hc
            refine lv_iload hx hb dcX8_takeBoth_118 (lv_at hl 8 rfl) ?_
            refine lv_goto (tgt := 125) hx hb dcX8_takeBoth_120 (by decide) ?_
            exact ih_6 x1 x2 x3 x4 x5 x6 x7 x8 x9 t0 r0 x7 0 z H locs ls hr0 hM (lv_sub hl [1, 2, 3, 4, 5, 6, 7, 8, 9, 10, 0] rfl) hq
        · intro x1 x2 x3 x4 x5 x6 x7 x8 x9 x10 r0 t0 t1 z H locs ls hr0 hM hl hq
          have hq : cm_X8_takeBoth_6 vl K (cd0_X8_takeBoth vl K d) (c_X8_takeBoth vl K (cd0_X8_takeBoth vl K d) k) x1 x2 x3 x4 x5 x6 x7 x8 x9 x10 r0 t0 t1 z = some z1 := hq
          unfold cm_X8_takeBoth_6 at hq
          refine lv_istore (lv' := [(11, .int t0), (0, .ref (u r0)), (1, .int x1), (2, .int x2), (3, .int x3), (4, .int x4), (5, .int x5), (6, .int x6), (7, .int x7), (8, .int x8), (9, .int x9), (10, .int x10)]) hx hb dcX8_takeBoth_125 hl (by decide) rfl (fun ls hl => ?_)
          refine lv_aload_n hx hb dcX8_takeBoth_127 rfl (lv_at hl 1 rfl) ?_
          refine lv_iload hx hb dcX8_takeBoth_128 (lv_at hl 6 rfl) ?_
          refine lv_iload hx hb dcX8_takeBoth_130 (lv_at hl 11 rfl) ?_
          obtain ⟨v6, z5, hcq, hq⟩ := tw_cl1 hq
          refine uw_cali hU hM (va_runV (As := [.int x5, .int x10]) (rest := []) ⟨hx, hb, hml, hown, hts⟩ (kc_X8_tie l D q vl u hU.1 K r0 x5 x10 hr0 z z5 v6 hcq) (cwV 2 hts (tw_gV wC_good xq_652 xq_653 xq_654 xq_609 xq_655) rfl rfl rfl cdd_X8_tie ⟨(show (0 + 1 : Nat) ≤ 1 + (d + 1) from by omega), (show (8 + (3 + 11) + 0 : Nat) ≤ 22 + (d + 1) * 32 from by omega)⟩) (cw_preV hK hM (co_X8 hr0) rfl) rfl rfl hl.1 rfl (lv_room (Nat.le_of_ble_eq_true rfl)) dcX8_takeBoth_132 ⟨(Nat.le_of_ble_eq_true rfl), (Nat.le_of_ble_eq_true rfl)⟩) (fun H locs hM => ?_)
          refine lv_aload_n hx hb dcX8_takeBoth_135 rfl (lv_at hl 1 rfl) ?_
          refine lv_iload hx hb dcX8_takeBoth_136 (lv_at hl 5 rfl) ?_
          refine lv_iload hx hb dcX8_takeBoth_138 (lv_at hl 0 rfl) ?_
          obtain ⟨v8, z7, hcq, hq⟩ := tw_cl1 hq
          refine uw_cali hU hM (va_runV (As := [.int x4, .int t0]) (rest := [.int v6]) ⟨hx, hb, hml, hown, hts⟩ (kc_X8_tie l D q vl u hU.1 K r0 x4 t0 hr0 z5 z7 v8 hcq) (cwV 2 hts (tw_gV wC_good xq_652 xq_653 xq_654 xq_609 xq_655) rfl rfl rfl cdd_X8_tie ⟨(show (0 + 1 : Nat) ≤ 1 + (d + 1) from by omega), (show (8 + (3 + 11) + 0 : Nat) ≤ 22 + (d + 1) * 32 from by omega)⟩) (cw_preV hK hM (co_X8 hr0) rfl) rfl rfl hl.1 rfl (lv_room (Nat.le_of_ble_eq_true rfl)) dcX8_takeBoth_140 ⟨(Nat.le_of_ble_eq_true rfl), (Nat.le_of_ble_eq_true rfl)⟩) (fun H locs hM => ?_)
          refine lv_iadd hx hb dcX8_takeBoth_143 ?_
          refine lv_istore (lv' := [(12, .int (v6 + v8)), (11, .int t0), (0, .ref (u r0)), (1, .int x1), (2, .int x2), (3, .int x3), (4, .int x4), (5, .int x5), (6, .int x6), (7, .int x7), (8, .int x8), (9, .int x9), (10, .int x10)]) hx hb dcX8_takeBoth_144 hl (by decide) rfl (fun ls hl => ?_)
          refine lv_aload_n hx hb dcX8_takeBoth_146 rfl (lv_at hl 2 rfl) ?_
          refine lv_iload_n hx hb dcX8_takeBoth_147 rfl (lv_at hl 3 rfl) ?_
          refine lv_iconst (v := 1) hx hb dcX8_takeBoth_148 (by decide) ?_
          refine lv_iadd hx hb dcX8_takeBoth_149 ?_
          refine lv_iload_n hx hb dcX8_takeBoth_150 rfl (lv_at hl 4 rfl) ?_
          refine lv_iload hx hb dcX8_takeBoth_151 (lv_at hl 10 rfl) ?_
          refine lv_iadd hx hb dcX8_takeBoth_153 ?_
          refine lv_iload_n hx hb dcX8_takeBoth_154 rfl (lv_at hl 5 rfl) ?_
          refine lv_iload hx hb dcX8_takeBoth_155 (lv_at hl 0 rfl) ?_
          refine lv_iadd hx hb dcX8_takeBoth_157 ?_
          obtain ⟨z9, hcq, hq⟩ := tw_cl0 hq
          refine uw_calv hU hM (va_runV (As := [.int (x1 + 1), .int (x2 + x8), .int (x3 + (v6 + v8))]) (rest := []) ⟨hx, hb, hml, hown, hts⟩ (ihd r0 (x1 + 1) (x2 + x8) (x3 + (v6 + v8)) hr0 z7 z9 hcq) (cwV 3 hts (tw_gV wC_good xq_648 xq_649 xq_650 xq_609 xq_651) rfl rfl rfl cdd_X8_takeBoth ⟨(show (1 + d + 1 : Nat) ≤ 1 + (d + 1) from by omega), (show (8 + (13 + 11) + (22 + d * 32) : Nat) ≤ 22 + (d + 1) * 32 from by omega)⟩) (cw_preV hK hM (co_X8 hr0) rfl) rfl rfl hl.1 rfl (lv_room (Nat.le_of_ble_eq_true rfl)) dcX8_takeBoth_158 ⟨(Nat.le_of_ble_eq_true rfl), (Nat.le_of_ble_eq_true rfl)⟩) (fun H locs hM => ?_)
          refine lv_aload_n hx hb dcX8_takeBoth_161 rfl (lv_at hl 2 rfl) ?_
          refine lv_iload hx hb dcX8_takeBoth_162 (lv_at hl 6 rfl) ?_
          refine lv_iload hx hb dcX8_takeBoth_164 (lv_at hl 1 rfl) ?_
          obtain ⟨z10, hcq, hq⟩ := tw_cl0 hq
          refine uw_calv hU hM (va_runV (As := [.int x4, .int t0]) (rest := []) ⟨hx, hb, hml, hown, hts⟩ (kc_X8_untie l D q vl u hU.1 K r0 x4 t0 hr0 z9 z10 hcq) (cwV 2 hts (tw_gV wC_good xq_656 xq_657 xq_658 xq_609 xq_659) rfl rfl rfl cdd_X8_untie ⟨(show (0 + 1 : Nat) ≤ 1 + (d + 1) from by omega), (show (8 + (3 + 11) + 0 : Nat) ≤ 22 + (d + 1) * 32 from by omega)⟩) (cw_preV hK hM (co_X8 hr0) rfl) rfl rfl hl.1 rfl (lv_room (Nat.le_of_ble_eq_true rfl)) dcX8_takeBoth_166 ⟨(Nat.le_of_ble_eq_true rfl), (Nat.le_of_ble_eq_true rfl)⟩) (fun H locs hM => ?_)
          refine lv_aload_n hx hb dcX8_takeBoth_169 rfl (lv_at hl 2 rfl) ?_
          refine lv_iload hx hb dcX8_takeBoth_170 (lv_at hl 7 rfl) ?_
          refine lv_iload hx hb dcX8_takeBoth_172 (lv_at hl 12 rfl) ?_
          obtain ⟨z11, hcq, hq⟩ := tw_cl0 hq
          refine uw_calv hU hM (va_runV (As := [.int x5, .int x10]) (rest := []) ⟨hx, hb, hml, hown, hts⟩ (kc_X8_untie l D q vl u hU.1 K r0 x5 x10 hr0 z10 z11 hcq) (cwV 2 hts (tw_gV wC_good xq_656 xq_657 xq_658 xq_609 xq_659) rfl rfl rfl cdd_X8_untie ⟨(show (0 + 1 : Nat) ≤ 1 + (d + 1) from by omega), (show (8 + (3 + 11) + 0 : Nat) ≤ 22 + (d + 1) * 32 from by omega)⟩) (cw_preV hK hM (co_X8 hr0) rfl) rfl rfl hl.1 rfl (lv_room (Nat.le_of_ble_eq_true rfl)) dcX8_takeBoth_174 ⟨(Nat.le_of_ble_eq_true rfl), (Nat.le_of_ble_eq_true rfl)⟩) (fun H locs hM => ?_)
          refine lv_iinc (v := (x8 + 1)) (lv' := [(8, .int (x8 + 1)), (12, .int (v6 + v8)), (11, .int t0), (0, .ref (u r0)), (1, .int x1), (2, .int x2), (3, .int x3), (4, .int x4), (5, .int x5), (6, .int x6), (7, .int x7), (9, .int x9), (10, .int x10)]) hx hb dcX8_takeBoth_177 hl (k := 10) rfl rfl (by decide) rfl (fun ls hl => ?_)
          refine lv_goto (tgt := 56) hx hb dcX8_takeBoth_180 (by decide) ?_
          exact ih_1 x1 x2 x3 x4 x5 x6 x7 (x8 + 1) 0 0 r0 0 0 z11 H locs ls hr0 hM (lv_sub hl [3, 4, 5, 6, 7, 8, 9, 10, 0] rfl) hq
    exact (key K).1 x1 x2 x3 0 0 0 0 0 0 0 r0 0 0 z s.heap [] ls hr0 hM (lv_sub hl [0, 1, 2, 3] rfl) hq
theorem kc_X8_takeBoth (l : Launch) (D : va_G) (q : Nat → ClassId) (vl u : Nat → Nat) (hU0 : tw_inj (cX vl) u) (K : Nat) (r0 : Nat) (x1 : Int32) (x2 : Int32) (x3 : Int32) (hr0 : cw_X8 r0) (z z1 : ow_MS) (hq : ce_X8_takeBoth vl K r0 x1 x2 x3 z = some z1) : Met l yX8_takeBoth wc_X8_takeBoth ({ frames := 15, cells := 0, slots := 0, locals := 470 } : Room) (va_Pc [.ref (u r0), .int x1, .int x2, .int x3] (cw_pre D q vl u z)) (va_Qv (fun (_ : Unit) => True) (fun _ t => va_P D vwCl (uw (cX vl) q u z1) t.heap) (tw_A (cX vl) u)) 0 0 (tw_A (cX vl) u)   := kcd_X8_takeBoth l D q vl u hU0 K 14 r0 x1 x2 x3 hr0 z z1 hq
theorem dcX8_countStates_0 : decode cX8_countStates 0 = .ok (.aload_n 0, 1) := dw_at cX8_countStates_k0 (p := 0) rfl (by decide +kernel)
theorem dcX8_countStates_1 : decode cX8_countStates 1 = .ok (.iconst 1, 1) := dw_at cX8_countStates_k0 (p := 1) rfl (by decide +kernel)
theorem dcX8_countStates_2 : decode cX8_countStates 2 = .ok (.aload_n 1, 1) := dw_at cX8_countStates_k0 (p := 2) rfl (by decide +kernel)
theorem dcX8_countStates_3 : decode cX8_countStates 3 = .ok (.iload_n 2, 1) := dw_at cX8_countStates_k0 (p := 3) rfl (by decide +kernel)
theorem dcX8_countStates_4 : decode cX8_countStates 4 = .ok (.invokevirtual 61, 3) := dw_at cX8_countStates_k0 (p := 4) rfl (by decide +kernel)
theorem dcX8_countStates_7 : decode cX8_countStates 7 = .ok (.ifCond .eq 4, 3) := dw_at cX8_countStates_k0 (p := 7) rfl (by decide +kernel)
theorem dcX8_countStates_10 : decode cX8_countStates 10 = .ok (.return_, 1) := dw_at cX8_countStates_k0 (p := 10) rfl (by decide +kernel)
theorem dcX8_countStates_11 : decode cX8_countStates 11 = .ok (.aload_n 0, 1) := dw_at cX8_countStates_k0 (p := 11) rfl (by decide +kernel)
theorem dcX8_countStates_12 : decode cX8_countStates 12 = .ok (.getfield 45, 3) := dw_at cX8_countStates_k0 (p := 12) rfl (by decide +kernel)
theorem dcX8_countStates_15 : decode cX8_countStates 15 = .ok (.aload_n 1, 1) := dw_at cX8_countStates_k0 (p := 15) rfl (by decide +kernel)
theorem dcX8_countStates_16 : decode cX8_countStates 16 = .ok (.iload_n 2, 1) := dw_at cX8_countStates_k0 (p := 16) rfl (by decide +kernel)
theorem dcX8_countStates_17 : decode cX8_countStates 17 = .ok (.invokevirtual 71, 3) := dw_at cX8_countStates_k0 (p := 17) rfl (by decide +kernel)
theorem dcX8_countStates_20 : decode cX8_countStates 20 = .ok (.aload_n 0, 1) := dw_at cX8_countStates_k0 (p := 20) rfl (by decide +kernel)
theorem dcX8_countStates_21 : decode cX8_countStates 21 = .ok (.aload_n 0, 1) := dw_at cX8_countStates_k0 (p := 21) rfl (by decide +kernel)
theorem dcX8_countStates_22 : decode cX8_countStates 22 = .ok (.getfield 45, 3) := dw_at cX8_countStates_k0 (p := 22) rfl (by decide +kernel)
theorem dcX8_countStates_25 : decode cX8_countStates 25 = .ok (.invokevirtual 117, 3) := dw_at cX8_countStates_k1 (p := 0) rfl (by decide +kernel)
theorem dcX8_countStates_28 : decode cX8_countStates 28 = .ok (.putfield 121, 3) := dw_at cX8_countStates_k1 (p := 3) rfl (by decide +kernel)
theorem dcX8_countStates_31 : decode cX8_countStates 31 = .ok (.aload_n 0, 1) := dw_at cX8_countStates_k1 (p := 6) rfl (by decide +kernel)
theorem dcX8_countStates_32 : decode cX8_countStates 32 = .ok (.getfield 38, 3) := dw_at cX8_countStates_k1 (p := 7) rfl (by decide +kernel)
theorem dcX8_countStates_35 : decode cX8_countStates 35 = .ok (.iconst 0, 1) := dw_at cX8_countStates_k1 (p := 10) rfl (by decide +kernel)
theorem dcX8_countStates_36 : decode cX8_countStates 36 = .ok (.invokestatic 65, 3) := dw_at cX8_countStates_k1 (p := 11) rfl (by decide +kernel)
theorem dcX8_countStates_39 : decode cX8_countStates 39 = .ok (.iconst 0, 1) := dw_at cX8_countStates_k1 (p := 14) rfl (by decide +kernel)
theorem dcX8_countStates_40 : decode cX8_countStates 40 = .ok (.istore_n 3, 1) := dw_at cX8_countStates_k1 (p := 15) rfl (by decide +kernel)
theorem dcX8_countStates_41 : decode cX8_countStates 41 = .ok (.iload_n 3, 1) := dw_at cX8_countStates_k1 (p := 16) rfl (by decide +kernel)
theorem dcX8_countStates_42 : decode cX8_countStates 42 = .ok (.iconst 2, 1) := dw_at cX8_countStates_k1 (p := 17) rfl (by decide +kernel)
theorem dcX8_countStates_43 : decode cX8_countStates 43 = .ok (.aload_n 0, 1) := dw_at cX8_countStates_k1 (p := 18) rfl (by decide +kernel)
theorem dcX8_countStates_44 : decode cX8_countStates 44 = .ok (.getfield 45, 3) := dw_at cX8_countStates_k1 (p := 19) rfl (by decide +kernel)
theorem dcX8_countStates_47 : decode cX8_countStates 47 = .ok (.getfield 79, 3) := dw_at cX8_countStates_k1 (p := 22) rfl (by decide +kernel)
theorem dcX8_countStates_50 : decode cX8_countStates 50 = .ok (.imul, 1) := dw_at cX8_countStates_k2 (p := 0) rfl (by decide +kernel)
theorem dcX8_countStates_51 : decode cX8_countStates 51 = .ok (.if_icmp .ge 51, 3) := dw_at cX8_countStates_k2 (p := 1) rfl (by decide +kernel)
theorem dcX8_countStates_54 : decode cX8_countStates 54 = .ok (.aload_n 0, 1) := dw_at cX8_countStates_k2 (p := 4) rfl (by decide +kernel)
theorem dcX8_countStates_55 : decode cX8_countStates 55 = .ok (.getfield 41, 3) := dw_at cX8_countStates_k2 (p := 5) rfl (by decide +kernel)
theorem dcX8_countStates_58 : decode cX8_countStates 58 = .ok (.iconst 2, 1) := dw_at cX8_countStates_k2 (p := 8) rfl (by decide +kernel)
theorem dcX8_countStates_59 : decode cX8_countStates 59 = .ok (.iload_n 3, 1) := dw_at cX8_countStates_k2 (p := 9) rfl (by decide +kernel)
theorem dcX8_countStates_60 : decode cX8_countStates 60 = .ok (.imul, 1) := dw_at cX8_countStates_k2 (p := 10) rfl (by decide +kernel)
theorem dcX8_countStates_61 : decode cX8_countStates 61 = .ok (.iconst 2, 1) := dw_at cX8_countStates_k2 (p := 11) rfl (by decide +kernel)
theorem dcX8_countStates_62 : decode cX8_countStates 62 = .ok (.aload_n 0, 1) := dw_at cX8_countStates_k2 (p := 12) rfl (by decide +kernel)
theorem dcX8_countStates_63 : decode cX8_countStates 63 = .ok (.getfield 45, 3) := dw_at cX8_countStates_k2 (p := 13) rfl (by decide +kernel)
theorem dcX8_countStates_66 : decode cX8_countStates 66 = .ok (.getfield 96, 3) := dw_at cX8_countStates_k2 (p := 16) rfl (by decide +kernel)
theorem dcX8_countStates_69 : decode cX8_countStates 69 = .ok (.iload_n 3, 1) := dw_at cX8_countStates_k2 (p := 19) rfl (by decide +kernel)
theorem dcX8_countStates_70 : decode cX8_countStates 70 = .ok (.iaload, 1) := dw_at cX8_countStates_k2 (p := 20) rfl (by decide +kernel)
theorem dcX8_countStates_71 : decode cX8_countStates 71 = .ok (.imul, 1) := dw_at cX8_countStates_k2 (p := 21) rfl (by decide +kernel)
theorem dcX8_countStates_72 : decode cX8_countStates 72 = .ok (.iconst 1, 1) := dw_at cX8_countStates_k2 (p := 22) rfl (by decide +kernel)
theorem dcX8_countStates_73 : decode cX8_countStates 73 = .ok (.iadd, 1) := dw_at cX8_countStates_k2 (p := 23) rfl (by decide +kernel)
theorem dcX8_countStates_74 : decode cX8_countStates 74 = .ok (.iastore, 1) := dw_at cX8_countStates_k3 (p := 0) rfl (by decide +kernel)
theorem dcX8_countStates_75 : decode cX8_countStates 75 = .ok (.aload_n 0, 1) := dw_at cX8_countStates_k3 (p := 1) rfl (by decide +kernel)
theorem dcX8_countStates_76 : decode cX8_countStates 76 = .ok (.getfield 41, 3) := dw_at cX8_countStates_k3 (p := 2) rfl (by decide +kernel)
theorem dcX8_countStates_79 : decode cX8_countStates 79 = .ok (.iconst 2, 1) := dw_at cX8_countStates_k3 (p := 5) rfl (by decide +kernel)
theorem dcX8_countStates_80 : decode cX8_countStates 80 = .ok (.iload_n 3, 1) := dw_at cX8_countStates_k3 (p := 6) rfl (by decide +kernel)
theorem dcX8_countStates_81 : decode cX8_countStates 81 = .ok (.imul, 1) := dw_at cX8_countStates_k3 (p := 7) rfl (by decide +kernel)
theorem dcX8_countStates_82 : decode cX8_countStates 82 = .ok (.iconst 1, 1) := dw_at cX8_countStates_k3 (p := 8) rfl (by decide +kernel)
theorem dcX8_countStates_83 : decode cX8_countStates 83 = .ok (.iadd, 1) := dw_at cX8_countStates_k3 (p := 9) rfl (by decide +kernel)
theorem dcX8_countStates_84 : decode cX8_countStates 84 = .ok (.iconst 2, 1) := dw_at cX8_countStates_k3 (p := 10) rfl (by decide +kernel)
theorem dcX8_countStates_85 : decode cX8_countStates 85 = .ok (.aload_n 0, 1) := dw_at cX8_countStates_k3 (p := 11) rfl (by decide +kernel)
theorem dcX8_countStates_86 : decode cX8_countStates 86 = .ok (.getfield 45, 3) := dw_at cX8_countStates_k3 (p := 12) rfl (by decide +kernel)
theorem dcX8_countStates_89 : decode cX8_countStates 89 = .ok (.getfield 123, 3) := dw_at cX8_countStates_k3 (p := 15) rfl (by decide +kernel)
theorem dcX8_countStates_92 : decode cX8_countStates 92 = .ok (.iload_n 3, 1) := dw_at cX8_countStates_k3 (p := 18) rfl (by decide +kernel)
theorem dcX8_countStates_93 : decode cX8_countStates 93 = .ok (.iaload, 1) := dw_at cX8_countStates_k3 (p := 19) rfl (by decide +kernel)
theorem dcX8_countStates_94 : decode cX8_countStates 94 = .ok (.imul, 1) := dw_at cX8_countStates_k3 (p := 20) rfl (by decide +kernel)
theorem dcX8_countStates_95 : decode cX8_countStates 95 = .ok (.iastore, 1) := dw_at cX8_countStates_k3 (p := 21) rfl (by decide +kernel)
theorem dcX8_countStates_96 : decode cX8_countStates 96 = .ok (.iinc 3 1, 3) := dw_at cX8_countStates_k3 (p := 22) rfl (by decide +kernel)
theorem dcX8_countStates_99 : decode cX8_countStates 99 = .ok (.goto (-58), 3) := dw_at cX8_countStates_k4 (p := 0) rfl (by decide +kernel)
theorem dcX8_countStates_102 : decode cX8_countStates 102 = .ok (.aload_n 0, 1) := dw_at cX8_countStates_k4 (p := 3) rfl (by decide +kernel)
theorem dcX8_countStates_103 : decode cX8_countStates 103 = .ok (.iconst 0, 1) := dw_at cX8_countStates_k4 (p := 4) rfl (by decide +kernel)
theorem dcX8_countStates_104 : decode cX8_countStates 104 = .ok (.iconst 0, 1) := dw_at cX8_countStates_k4 (p := 5) rfl (by decide +kernel)
theorem dcX8_countStates_105 : decode cX8_countStates 105 = .ok (.aload_n 0, 1) := dw_at cX8_countStates_k4 (p := 6) rfl (by decide +kernel)
theorem dcX8_countStates_106 : decode cX8_countStates 106 = .ok (.getfield 45, 3) := dw_at cX8_countStates_k4 (p := 7) rfl (by decide +kernel)
theorem dcX8_countStates_109 : decode cX8_countStates 109 = .ok (.getfield 99, 3) := dw_at cX8_countStates_k4 (p := 10) rfl (by decide +kernel)
theorem dcX8_countStates_112 : decode cX8_countStates 112 = .ok (.invokevirtual 126, 3) := dw_at cX8_countStates_k4 (p := 13) rfl (by decide +kernel)
theorem dcX8_countStates_115 : decode cX8_countStates 115 = .ok (.return_, 1) := dw_at cX8_countStates_k4 (p := 16) rfl (by decide +kernel)
def cm_X8_countStates_0 (vl : Nat → Nat) (K : Nat) (go : Nat → Int32 → Int32 → Nat → Nat → ow_MS → Option ow_MS) (x2 : Int32) (x3 : Int32) (r0 : Nat) (r1 : Nat) (z : ow_MS) : Option ow_MS :=
 cs1 (ce_X8_isKnown vl K r0 1 r1 x2 z) fun v2 z1 => (if v2 = 0 then cs0 (ce_X7_load vl K (r0 + 16000) r1 x2 z1) fun z3 => cs1 (ce_X7_writhe vl K (r0 + 16000) z3) fun v5 z4 => wrF z4 (r0 + 9) v5 fun z6 => cs0 (ce_J7_fill_53178 vl K (r0 + 6) 0 z6) fun z7 => go 1 x2 0 r0 r1 z7
 else some z1)
def cm_X8_countStates_1 (vl : Nat → Nat) (K : Nat) (go : Nat → Int32 → Int32 → Nat → Nat → ow_MS → Option ow_MS) (x2 : Int32) (x3 : Int32) (r0 : Nat) (r1 : Nat) (z : ow_MS) : Option ow_MS :=
 rdF z ((r0 + 16000) + 8) fun v8 => (if (2 * v8) ≤ x3 then rdF z ((r0 + 16000) + 9) fun v9 => cs0 (ce_X8_takeBoth vl K r0 0 0 v9 z) fun z10 => some z10
 else crI (cX vl) z ((r0 + 16000) + 1) x3 fun v11 => ctI (cX vl) z (r0 + 7) (2 * x3) ((2 * v11) + 1) fun z12 => crI (cX vl) z12 ((r0 + 16000) + 2) x3 fun v13 => ctI (cX vl) z12 (r0 + 7) ((2 * x3) + 1) (2 * v13) fun z14 => go 1 x2 (x3 + 1) r0 r1 z14)
def cb_X8_countStates (vl : Nat → Nat) (K : Nat) (go : Nat → Int32 → Int32 → Nat → Nat → ow_MS → Option ow_MS) (L : Nat) (x2 : Int32) (x3 : Int32) (r0 : Nat) (r1 : Nat) (z : ow_MS) : Option ow_MS := match L with
  | 0 => cm_X8_countStates_0 vl K go x2 x3 r0 r1 z
  | 1 => cm_X8_countStates_1 vl K go x2 x3 r0 r1 z
  | _ => none
def c_X8_countStates (vl : Nat → Nat) (K : Nat) : Nat → Nat → Int32 → Int32 → Nat → Nat → ow_MS → Option ow_MS
  | 0 => fun _ _ _ _ _ _ => none
  | k + 1 => cb_X8_countStates vl K (c_X8_countStates vl K k)
def ce_X8_countStates (vl : Nat → Nat) (K : Nat) (r0 : Nat) (r1 : Nat) (x2 : Int32) (z : ow_MS) : Option ow_MS := c_X8_countStates vl K K 0 x2 0 r0 r1 z
abbrev wc_X8_countStates : List Cond := .code yX8_countStates cX8_countStates 4 none :: wC
theorem cdd_X8_countStates : yX8_countStates.cls = RX8 ∧ yX8_countStates.cls ≠ "java/lang/invoke/MethodHandle" ∧ yX8_countStates.cls ≠ "java/lang/invoke/VarHandle" ∧ (parseMethodDescriptor yX8_countStates.desc).map (fun d => d.parameters.length) = some 2 := by decide +kernel
set_option maxHeartbeats 4000000 in
set_option maxRecDepth 100000 in
theorem kc_X8_countStates (l : Launch) (D : va_G) (q : Nat → ClassId) (vl u : Nat → Nat) (hU0 : tw_inj (cX vl) u) (K : Nat) (r0 : Nat) (r1 : Nat) (x2 : Int32) (hr0 : cw_X8 r0) (hr1 : cw_X3 r1) (z z1 : ow_MS) (hq : ce_X8_countStates vl K r0 r1 x2 z = some z1) : Met l yX8_countStates wc_X8_countStates ({ frames := 16, cells := 0, slots := 0, locals := 502 } : Room) (va_Pc [.ref (u r0), .ref (u r1), .int x2] (cw_pre D q vl u z)) (va_Qv (fun (_ : Unit) => True) (fun _ t => va_P D vwCl (uw (cX vl) q u z1) t.heap) (tw_A (cX vl) u)) 0 0 (tw_A (cX vl) u) := by
  refine Met.ofW (cc := cX8_countStates) (maxL := 4) (ret := none) (by decide) rfl ?_
  intro p e s m args below meth c s₁ B hml hv
  obtain ⟨rfl, hP, hK⟩ := hv
  have hx := B.exec
  have hb := B.bytes
  have hr := B.returns
  have hts := atoms_spec (ws := wc_X8_countStates) B.pre
  have hT : ∀ w ∈ wC, w.before ([.ref (u r0), .ref (u r1), .int x2] : List Value).toArray s = true := fun w h => hts w (List.mem_cons_of_mem _ h)
  have hown : s.vm.findClass RX8 = some m.cls := findClass_of_methodNamed B.named
  have hlocks := B.notSynchronized
  have hU : uw_inj (cX vl) u (tw_A (cX vl) u) := ⟨hU0, fun h hh => ⟨h, hh, rfl⟩⟩
  have hM : uw_M D vwCl (cX vl) q (tw_A (cX vl) u) s.heap u z s.heap [] := ⟨hP, va_S.rf⟩
  have hl := lv_entry ([.ref (u r0), .ref (u r1), .int x2]) (n := 4) (Nat.le_of_ble_eq_true rfl)
  rw [lg_entry_eq]
  generalize (lg_sl ([.ref (u r0), .ref (u r1), .int x2]) ++ List.replicate (4 - (lg_sl ([.ref (u r0), .ref (u r1), .int x2])).length) Slot.unset).toArray = ls at hl ⊢
  have hl : lv_has ls 4 [(0, .ref (u r0)), (1, .ref (u r1)), (2, .int x2)] := hl
  refine ow_named (fun QQ hQQ => ?_)
  generalize ([.ref (u r0), .ref (u r1), .int x2] : List Value).toArray = args at hts hT hQQ ⊢
  have key : ∀ k : Nat, (∀ (x2 : Int32) (x3 : Int32) (r0 : Nat) (r1 : Nat) (z : ow_MS) (H : Heap) (locs : List Loc) (ls : Array Slot), cw_X8 r0 → cw_X3 r1 → uw_M D vwCl (cX vl) q (tw_A (cX vl) u) s.heap u z H locs → lv_has ls 4 [(0, .ref (u r0)), (1, .ref (u r1)), (2, .int x2)] → c_X8_countStates vl K k 0 x2 x3 r0 r1 z = some z1 → W p l e ({ frames := 16, cells := 0, slots := 0, locals := 502 } : Room) s m args below meth c H locs 0 0 QQ (F0 m 0 ls [])) ∧ (∀ (x2 : Int32) (x3 : Int32) (r0 : Nat) (r1 : Nat) (z : ow_MS) (H : Heap) (locs : List Loc) (ls : Array Slot), cw_X8 r0 → cw_X3 r1 → uw_M D vwCl (cX vl) q (tw_A (cX vl) u) s.heap u z H locs → lv_has ls 4 [(0, .ref (u r0)), (1, .ref (u r1)), (2, .int x2), (3, .int x3)] → c_X8_countStates vl K k 1 x2 x3 r0 r1 z = some z1 → W p l e ({ frames := 16, cells := 0, slots := 0, locals := 502 } : Room) s m args below meth c H locs 0 0 QQ (F0 m 41 ls [])) := by
    intro k
    induction k with
    | zero => exact ⟨fun _ _ _ _ _ _ _ _ _ _ _ _ hq => cw_no hq, fun _ _ _ _ _ _ _ _ _ _ _ _ hq => cw_no hq⟩
    | succ k ih =>
      obtain ⟨ih_0, ih_1⟩ := ih
      refine ⟨?_, ?_⟩
      · intro x2 x3 r0 r1 z H locs ls hr0 hr1 hM hl hq
        have hq : cm_X8_countStates_0 vl K (c_X8_countStates vl K k) x2 x3 r0 r1 z = some z1 := hq
        unfold cm_X8_countStates_0 at hq
        refine lv_aload_n hx hb dcX8_countStates_0 rfl (lv_at hl 0 rfl) ?_
        refine lv_iconst (v := 1) hx hb dcX8_countStates_1 (by decide) ?_
        refine lv_aload_n hx hb dcX8_countStates_2 rfl (lv_at hl 1 rfl) ?_
        refine lv_iload_n hx hb dcX8_countStates_3 rfl (lv_at hl 2 rfl) ?_
        obtain ⟨v2, z1, hcq, hq⟩ := tw_cl1 hq
        refine uw_cali hU hM (va_runV (As := [.int 1, .ref (u r1), .int x2]) (rest := []) ⟨hx, hb, hml, hown, hts⟩ (kc_X8_isKnown l D q vl u hU.1 K r0 1 r1 x2 hr0 hr1 z z1 v2 hcq) (cwV 3 hts (tw_gV wC_good xq_606 xq_607 xq_608 xq_609 xq_602) rfl rfl rfl cdd_X8_isKnown ⟨(Nat.le_of_ble_eq_true rfl), (Nat.le_of_ble_eq_true rfl)⟩) (cw_preV hK hM (co_X8 hr0) rfl) rfl rfl hl.1 rfl (lv_room (Nat.le_of_ble_eq_true rfl)) dcX8_countStates_4 ⟨(Nat.le_of_ble_eq_true rfl), (Nat.le_of_ble_eq_true rfl)⟩) (fun H locs hM => ?_)
        refine lv_if_eq (tgt := 11) hx hb dcX8_countStates_7 (by decide) (fun hc => ?_) (fun hc => ?_)
        · have hq := tw_it hq hc
          refine lv_aload_n hx hb dcX8_countStates_11 rfl (lv_at hl 0 rfl) ?_
          refine vgX8_45 hx hb hT hown hK hM hr0 dcX8_countStates_12 ?_
          refine lv_aload_n hx hb dcX8_countStates_15 rfl (lv_at hl 1 rfl) ?_
          refine lv_iload_n hx hb dcX8_countStates_16 rfl (lv_at hl 2 rfl) ?_
          obtain ⟨z3, hcq, hq⟩ := tw_cl0 hq
          refine uw_calv hU hM (va_runV (As := [.ref (u r1), .int x2]) (rest := []) ⟨hx, hb, hml, hown, hts⟩ (kc_X7_load l D q vl u hU.1 K (r0 + 16000) r1 x2 (cs_X8_7 hr0) hr1 z1 z3 hcq) (cwV 2 hts (tw_gV wC_good xq_611 xq_468 xq_469 xq_54 xq_470) rfl rfl rfl cdd_X7_load ⟨(Nat.le_of_ble_eq_true rfl), (Nat.le_of_ble_eq_true rfl)⟩) (cw_preV hK hM (co_X7 (cs_X8_7 hr0)) rfl) rfl rfl hl.1 rfl (lv_room (Nat.le_of_ble_eq_true rfl)) dcX8_countStates_17 ⟨(Nat.le_of_ble_eq_true rfl), (Nat.le_of_ble_eq_true rfl)⟩) (fun H locs hM => ?_)
          refine lv_aload_n hx hb dcX8_countStates_20 rfl (lv_at hl 0 rfl) ?_
          refine lv_aload_n hx hb dcX8_countStates_21 rfl (lv_at hl 0 rfl) ?_
          refine vgX8_45 hx hb hT hown hK hM hr0 dcX8_countStates_22 ?_
          obtain ⟨v5, z4, hcq, hq⟩ := tw_cl1 hq
          refine uw_cali hU hM (va_runV (As := []) (rest := [.ref (u r0)]) ⟨hx, hb, hml, hown, hts⟩ (kc_X7_writhe l D q vl u hU.1 K (r0 + 16000) (cs_X8_7 hr0) z3 z4 v5 hcq) (cwV 0 hts (tw_gV wC_good xq_647 xq_173 xq_174 xq_54 xq_175) rfl rfl rfl cdd_X7_writhe ⟨(Nat.le_of_ble_eq_true rfl), (Nat.le_of_ble_eq_true rfl)⟩) (cw_preV hK hM (co_X7 (cs_X8_7 hr0)) rfl) rfl rfl hl.1 rfl (lv_room (Nat.le_of_ble_eq_true rfl)) dcX8_countStates_25 ⟨(Nat.le_of_ble_eq_true rfl), (Nat.le_of_ble_eq_true rfl)⟩) (fun H locs hM => ?_)
          refine vpX8_121 hx hb hT hown hK hM hU hr0 hq dcX8_countStates_28 (fun z6 H locs hM hq => ?_)
          refine lv_aload_n hx hb dcX8_countStates_31 rfl (lv_at hl 0 rfl) ?_
          refine vgX8_38 hx hb hT hown hK hM hr0 dcX8_countStates_32 ?_
          refine lv_iconst (v := 0) hx hb dcX8_countStates_35 (by decide) ?_
          obtain ⟨z7, hcq, hq⟩ := tw_cl0 hq
          refine uw_calv hU hM (va_runS (As := [.ref (u (r0 + 6)), .int 0]) (rest := []) ⟨hx, hb, hml, hown, hts⟩ (kc_J7_fill_53178 l D q vl u hU.1 K (r0 + 6) 0 (cr_X8_5 hr0) z6 z7 hcq) (va_cwS 2 hts (tw_gS wC_good xq_610 xq_8 xq_9 xq_10) rfl rfl rfl cdd_J7_fill_53178 ⟨(Nat.le_of_ble_eq_true rfl), (Nat.le_of_ble_eq_true rfl)⟩) (cw_preS hK hM) rfl rfl hl.1 rfl (lv_room (Nat.le_of_ble_eq_true rfl)) dcX8_countStates_36 ⟨(Nat.le_of_ble_eq_true rfl), (Nat.le_of_ble_eq_true rfl)⟩) (fun H locs hM => ?_)
          refine lv_iconst (v := 0) hx hb dcX8_countStates_39 (by decide) ?_
          refine lv_istore_n (lv' := [(3, .int 0), (0, .ref (u r0)), (1, .ref (u r1)), (2, .int x2)]) hx hb dcX8_countStates_40 rfl hl (by decide) rfl (fun ls hl => ?_)
          exact ih_1 x2 0 r0 r1 z7 H locs ls hr0 hr1 hM (lv_sub hl [1, 2, 3, 0] rfl) hq
        · have hq := tw_if hq hc
          exact cw_vret hx hb hr hlocks hM hq hQQ dcX8_countStates_10
      · intro x2 x3 r0 r1 z H locs ls hr0 hr1 hM hl hq
        have hq : cm_X8_countStates_1 vl K (c_X8_countStates vl K k) x2 x3 r0 r1 z = some z1 := hq
        unfold cm_X8_countStates_1 at hq
        refine lv_iload_n hx hb dcX8_countStates_41 rfl (lv_at hl 3 rfl) ?_
        refine lv_iconst (v := 2) hx hb dcX8_countStates_42 (by decide) ?_
        refine lv_aload_n hx hb dcX8_countStates_43 rfl (lv_at hl 0 rfl) ?_
        refine vgX8_45 hx hb hT hown hK hM hr0 dcX8_countStates_44 ?_
        refine vgX8_79 hx hb hT hown hK hM (cs_X8_7 hr0) hq dcX8_countStates_47 (fun v8 hq => ?_)
        refine lv_imul hx hb dcX8_countStates_50 ?_
        refine lv_icmp_ge (tgt := 102) hx hb dcX8_countStates_51 (by decide) (fun hc => ?_) (fun hc => ?_)
        · have hq := tw_it hq hc
          refine lv_aload_n hx hb dcX8_countStates_102 rfl (lv_at hl 0 rfl) ?_
          refine lv_iconst (v := 0) hx hb dcX8_countStates_103 (by decide) ?_
          refine lv_iconst (v := 0) hx hb dcX8_countStates_104 (by decide) ?_
          refine lv_aload_n hx hb dcX8_countStates_105 rfl (lv_at hl 0 rfl) ?_
          refine vgX8_45 hx hb hT hown hK hM hr0 dcX8_countStates_106 ?_
          refine vgX8_99 hx hb hT hown hK hM (cs_X8_7 hr0) hq dcX8_countStates_109 (fun v9 hq => ?_)
          obtain ⟨z10, hcq, hq⟩ := tw_cl0 hq
          refine uw_calv hU hM (va_runV (As := [.int 0, .int 0, .int v9]) (rest := []) ⟨hx, hb, hml, hown, hts⟩ (kc_X8_takeBoth l D q vl u hU.1 K r0 0 0 v9 hr0 z z10 hcq) (cwV 3 hts (tw_gV wC_good xq_648 xq_649 xq_650 xq_609 xq_651) rfl rfl rfl cdd_X8_takeBoth ⟨(Nat.le_of_ble_eq_true rfl), (Nat.le_of_ble_eq_true rfl)⟩) (cw_preV hK hM (co_X8 hr0) rfl) rfl rfl hl.1 rfl (lv_room (Nat.le_of_ble_eq_true rfl)) dcX8_countStates_112 ⟨(Nat.le_of_ble_eq_true rfl), (Nat.le_of_ble_eq_true rfl)⟩) (fun H locs hM => ?_)
          exact cw_vret hx hb hr hlocks hM hq hQQ dcX8_countStates_115
        · have hq := tw_if hq hc
          refine lv_aload_n hx hb dcX8_countStates_54 rfl (lv_at hl 0 rfl) ?_
          refine vgX8_41 hx hb hT hown hK hM hr0 dcX8_countStates_55 ?_
          refine lv_iconst (v := 2) hx hb dcX8_countStates_58 (by decide) ?_
          refine lv_iload_n hx hb dcX8_countStates_59 rfl (lv_at hl 3 rfl) ?_
          refine lv_imul hx hb dcX8_countStates_60 ?_
          refine lv_iconst (v := 2) hx hb dcX8_countStates_61 (by decide) ?_
          refine lv_aload_n hx hb dcX8_countStates_62 rfl (lv_at hl 0 rfl) ?_
          refine vgX8_45 hx hb hT hown hK hM hr0 dcX8_countStates_63 ?_
          refine vgX8_96 hx hb hT hown hK hM (cs_X8_7 hr0) dcX8_countStates_66 ?_
          refine lv_iload_n hx hb dcX8_countStates_69 rfl (lv_at hl 3 rfl) ?_
          refine uw_iald cX_ok hx hb hK hM (cr_X7_0 (cs_X8_7 hr0)) hq dcX8_countStates_70 (fun v11 hq => ?_)
          refine lv_imul hx hb dcX8_countStates_71 ?_
          refine lv_iconst (v := 1) hx hb dcX8_countStates_72 (by decide) ?_
          refine lv_iadd hx hb dcX8_countStates_73 ?_
          refine uw_iast cX_ok hU hx hb hK hM (cr_X8_6 hr0) hq dcX8_countStates_74 (fun z12 H locs hM hq => ?_)
          refine lv_aload_n hx hb dcX8_countStates_75 rfl (lv_at hl 0 rfl) ?_
          refine vgX8_41 hx hb hT hown hK hM hr0 dcX8_countStates_76 ?_
          refine lv_iconst (v := 2) hx hb dcX8_countStates_79 (by decide) ?_
          refine lv_iload_n hx hb dcX8_countStates_80 rfl (lv_at hl 3 rfl) ?_
          refine lv_imul hx hb dcX8_countStates_81 ?_
          refine lv_iconst (v := 1) hx hb dcX8_countStates_82 (by decide) ?_
          refine lv_iadd hx hb dcX8_countStates_83 ?_
          refine lv_iconst (v := 2) hx hb dcX8_countStates_84 (by decide) ?_
          refine lv_aload_n hx hb dcX8_countStates_85 rfl (lv_at hl 0 rfl) ?_
          refine vgX8_45 hx hb hT hown hK hM hr0 dcX8_countStates_86 ?_
          refine vgX8_123 hx hb hT hown hK hM (cs_X8_7 hr0) dcX8_countStates_89 ?_
          refine lv_iload_n hx hb dcX8_countStates_92 rfl (lv_at hl 3 rfl) ?_
          refine uw_iald cX_ok hx hb hK hM (cr_X7_1 (cs_X8_7 hr0)) hq dcX8_countStates_93 (fun v13 hq => ?_)
          refine lv_imul hx hb dcX8_countStates_94 ?_
          refine uw_iast cX_ok hU hx hb hK hM (cr_X8_6 hr0) hq dcX8_countStates_95 (fun z14 H locs hM hq => ?_)
          refine lv_iinc (v := (x3 + 1)) (lv' := [(3, .int (x3 + 1)), (0, .ref (u r0)), (1, .ref (u r1)), (2, .int x2)]) hx hb dcX8_countStates_96 hl (k := 3) rfl rfl (by decide) rfl (fun ls hl => ?_)
          refine lv_goto (tgt := 41) hx hb dcX8_countStates_99 (by decide) ?_
          exact ih_1 x2 (x3 + 1) r0 r1 z14 H locs ls hr0 hr1 hM (lv_sub hl [1, 2, 3, 0] rfl) hq
  exact (key K).1 x2 0 r0 r1 z s.heap [] ls hr0 hr1 hM (lv_sub hl [0, 1, 2] rfl) hq
theorem dcX8_jonesAt_0 : decode cX8_jonesAt 0 = .ok (.iload_n 1, 1) := dw_at cX8_jonesAt_k0 (p := 0) rfl (by decide +kernel)
theorem dcX8_jonesAt_1 : decode cX8_jonesAt 1 = .ok (.i2l, 1) := dw_at cX8_jonesAt_k0 (p := 1) rfl (by decide +kernel)
theorem dcX8_jonesAt_2 : decode cX8_jonesAt 2 = .ok (.iconst 3, 1) := dw_at cX8_jonesAt_k0 (p := 2) rfl (by decide +kernel)
theorem dcX8_jonesAt_3 : decode cX8_jonesAt 3 = .ok (.aload_n 0, 1) := dw_at cX8_jonesAt_k0 (p := 3) rfl (by decide +kernel)
theorem dcX8_jonesAt_4 : decode cX8_jonesAt 4 = .ok (.getfield 121, 3) := dw_at cX8_jonesAt_k0 (p := 4) rfl (by decide +kernel)
theorem dcX8_jonesAt_7 : decode cX8_jonesAt 7 = .ok (.imul, 1) := dw_at cX8_jonesAt_k0 (p := 7) rfl (by decide +kernel)
theorem dcX8_jonesAt_8 : decode cX8_jonesAt 8 = .ok (.i2l, 1) := dw_at cX8_jonesAt_k0 (p := 8) rfl (by decide +kernel)
theorem dcX8_jonesAt_9 : decode cX8_jonesAt 9 = .ok (.ladd, 1) := dw_at cX8_jonesAt_k0 (p := 9) rfl (by decide +kernel)
theorem dcX8_jonesAt_10 : decode cX8_jonesAt 10 = .ok (.lstore_n 2, 1) := dw_at cX8_jonesAt_k0 (p := 10) rfl (by decide +kernel)
theorem dcX8_jonesAt_11 : decode cX8_jonesAt 11 = .ok (.iconst 0, 1) := dw_at cX8_jonesAt_k0 (p := 11) rfl (by decide +kernel)
theorem dcX8_jonesAt_12 : decode cX8_jonesAt 12 = .ok (.istore 4, 2) := dw_at cX8_jonesAt_k0 (p := 12) rfl (by decide +kernel)
theorem dcX8_jonesAt_14 : decode cX8_jonesAt 14 = .ok (.iconst 0, 1) := dw_at cX8_jonesAt_k0 (p := 14) rfl (by decide +kernel)
theorem dcX8_jonesAt_15 : decode cX8_jonesAt 15 = .ok (.istore 5, 2) := dw_at cX8_jonesAt_k0 (p := 15) rfl (by decide +kernel)
theorem dcX8_jonesAt_17 : decode cX8_jonesAt 17 = .ok (.iload 5, 2) := dw_at cX8_jonesAt_k0 (p := 17) rfl (by decide +kernel)
theorem dcX8_jonesAt_19 : decode cX8_jonesAt 19 = .ok (.aload_n 0, 1) := dw_at cX8_jonesAt_k0 (p := 19) rfl (by decide +kernel)
theorem dcX8_jonesAt_20 : decode cX8_jonesAt 20 = .ok (.getfield 45, 3) := dw_at cX8_jonesAt_k0 (p := 20) rfl (by decide +kernel)
theorem dcX8_jonesAt_23 : decode cX8_jonesAt 23 = .ok (.getfield 79, 3) := dw_at cX8_jonesAt_k0 (p := 23) rfl (by decide +kernel)
theorem dcX8_jonesAt_26 : decode cX8_jonesAt 26 = .ok (.if_icmp .gt 133, 3) := dw_at cX8_jonesAt_k1 (p := 0) rfl (by decide +kernel)
theorem dcX8_jonesAt_29 : decode cX8_jonesAt 29 = .ok (.iconst 1, 1) := dw_at cX8_jonesAt_k1 (p := 3) rfl (by decide +kernel)
theorem dcX8_jonesAt_30 : decode cX8_jonesAt 30 = .ok (.istore 6, 2) := dw_at cX8_jonesAt_k1 (p := 4) rfl (by decide +kernel)
theorem dcX8_jonesAt_32 : decode cX8_jonesAt 32 = .ok (.iload 6, 2) := dw_at cX8_jonesAt_k1 (p := 6) rfl (by decide +kernel)
theorem dcX8_jonesAt_34 : decode cX8_jonesAt 34 = .ok (.bipush 24, 2) := dw_at cX8_jonesAt_k1 (p := 8) rfl (by decide +kernel)
theorem dcX8_jonesAt_36 : decode cX8_jonesAt 36 = .ok (.if_icmp .ge 117, 3) := dw_at cX8_jonesAt_k1 (p := 10) rfl (by decide +kernel)
theorem dcX8_jonesAt_39 : decode cX8_jonesAt 39 = .ok (.iload 6, 2) := dw_at cX8_jonesAt_k1 (p := 13) rfl (by decide +kernel)
theorem dcX8_jonesAt_41 : decode cX8_jonesAt 41 = .ok (.iconst 1, 1) := dw_at cX8_jonesAt_k1 (p := 15) rfl (by decide +kernel)
theorem dcX8_jonesAt_42 : decode cX8_jonesAt 42 = .ok (.isub, 1) := dw_at cX8_jonesAt_k1 (p := 16) rfl (by decide +kernel)
theorem dcX8_jonesAt_43 : decode cX8_jonesAt 43 = .ok (.istore 7, 2) := dw_at cX8_jonesAt_k1 (p := 17) rfl (by decide +kernel)
theorem dcX8_jonesAt_45 : decode cX8_jonesAt 45 = .ok (.aload_n 0, 1) := dw_at cX8_jonesAt_k1 (p := 19) rfl (by decide +kernel)
theorem dcX8_jonesAt_46 : decode cX8_jonesAt 46 = .ok (.getfield 45, 3) := dw_at cX8_jonesAt_k1 (p := 20) rfl (by decide +kernel)
theorem dcX8_jonesAt_49 : decode cX8_jonesAt 49 = .ok (.getfield 79, 3) := dw_at cX8_jonesAt_k1 (p := 23) rfl (by decide +kernel)
theorem dcX8_jonesAt_52 : decode cX8_jonesAt 52 = .ok (.iconst 2, 1) := dw_at cX8_jonesAt_k2 (p := 0) rfl (by decide +kernel)
theorem dcX8_jonesAt_53 : decode cX8_jonesAt 53 = .ok (.iload 5, 2) := dw_at cX8_jonesAt_k2 (p := 1) rfl (by decide +kernel)
theorem dcX8_jonesAt_55 : decode cX8_jonesAt 55 = .ok (.imul, 1) := dw_at cX8_jonesAt_k2 (p := 3) rfl (by decide +kernel)
theorem dcX8_jonesAt_56 : decode cX8_jonesAt 56 = .ok (.isub, 1) := dw_at cX8_jonesAt_k2 (p := 4) rfl (by decide +kernel)
theorem dcX8_jonesAt_57 : decode cX8_jonesAt 57 = .ok (.iconst 2, 1) := dw_at cX8_jonesAt_k2 (p := 5) rfl (by decide +kernel)
theorem dcX8_jonesAt_58 : decode cX8_jonesAt 58 = .ok (.iload 7, 2) := dw_at cX8_jonesAt_k2 (p := 6) rfl (by decide +kernel)
theorem dcX8_jonesAt_60 : decode cX8_jonesAt 60 = .ok (.imul, 1) := dw_at cX8_jonesAt_k2 (p := 8) rfl (by decide +kernel)
theorem dcX8_jonesAt_61 : decode cX8_jonesAt 61 = .ok (.iadd, 1) := dw_at cX8_jonesAt_k2 (p := 9) rfl (by decide +kernel)
theorem dcX8_jonesAt_62 : decode cX8_jonesAt 62 = .ok (.i2l, 1) := dw_at cX8_jonesAt_k2 (p := 10) rfl (by decide +kernel)
theorem dcX8_jonesAt_63 : decode cX8_jonesAt 63 = .ok (.lload_n 2, 1) := dw_at cX8_jonesAt_k2 (p := 11) rfl (by decide +kernel)
theorem dcX8_jonesAt_64 : decode cX8_jonesAt 64 = .ok (.lsub, 1) := dw_at cX8_jonesAt_k2 (p := 12) rfl (by decide +kernel)
theorem dcX8_jonesAt_65 : decode cX8_jonesAt 65 = .ok (.lstore 8, 2) := dw_at cX8_jonesAt_k2 (p := 13) rfl (by decide +kernel)
theorem dcX8_jonesAt_67 : decode cX8_jonesAt 67 = .ok (.lload 8, 2) := dw_at cX8_jonesAt_k2 (p := 15) rfl (by decide +kernel)
theorem dcX8_jonesAt_69 : decode cX8_jonesAt 69 = .ok (.ldc2_w 138, 3) := dw_at cX8_jonesAt_k2 (p := 17) rfl (by decide +kernel)
theorem dcX8_jonesAt_72 : decode cX8_jonesAt 72 = .ok (.lrem, 1) := dw_at cX8_jonesAt_k2 (p := 20) rfl (by decide +kernel)
theorem dcX8_jonesAt_73 : decode cX8_jonesAt 73 = .ok (.lconst 0, 1) := dw_at cX8_jonesAt_k2 (p := 21) rfl (by decide +kernel)
theorem dcX8_jonesAt_74 : decode cX8_jonesAt 74 = .ok (.lcmp, 1) := dw_at cX8_jonesAt_k2 (p := 22) rfl (by decide +kernel)
theorem dcX8_jonesAt_75 : decode cX8_jonesAt 75 = .ok (.ifCond .ne 72, 3) := dw_at cX8_jonesAt_k2 (p := 23) rfl (by decide +kernel)
theorem dcX8_jonesAt_78 : decode cX8_jonesAt 78 = .ok (.lload 8, 2) := dw_at cX8_jonesAt_k3 (p := 0) rfl (by decide +kernel)
theorem dcX8_jonesAt_80 : decode cX8_jonesAt 80 = .ok (.lconst 0, 1) := dw_at cX8_jonesAt_k3 (p := 2) rfl (by decide +kernel)
theorem dcX8_jonesAt_81 : decode cX8_jonesAt 81 = .ok (.lcmp, 1) := dw_at cX8_jonesAt_k3 (p := 3) rfl (by decide +kernel)
theorem dcX8_jonesAt_82 : decode cX8_jonesAt 82 = .ok (.ifCond .lt 65, 3) := dw_at cX8_jonesAt_k3 (p := 4) rfl (by decide +kernel)
theorem dcX8_jonesAt_85 : decode cX8_jonesAt 85 = .ok (.lload 8, 2) := dw_at cX8_jonesAt_k3 (p := 7) rfl (by decide +kernel)
theorem dcX8_jonesAt_87 : decode cX8_jonesAt 87 = .ok (.iconst 4, 1) := dw_at cX8_jonesAt_k3 (p := 9) rfl (by decide +kernel)
theorem dcX8_jonesAt_88 : decode cX8_jonesAt 88 = .ok (.iload 7, 2) := dw_at cX8_jonesAt_k3 (p := 10) rfl (by decide +kernel)
theorem dcX8_jonesAt_90 : decode cX8_jonesAt 90 = .ok (.imul, 1) := dw_at cX8_jonesAt_k3 (p := 12) rfl (by decide +kernel)
theorem dcX8_jonesAt_91 : decode cX8_jonesAt 91 = .ok (.i2l, 1) := dw_at cX8_jonesAt_k3 (p := 13) rfl (by decide +kernel)
theorem dcX8_jonesAt_92 : decode cX8_jonesAt 92 = .ok (.lcmp, 1) := dw_at cX8_jonesAt_k3 (p := 14) rfl (by decide +kernel)
theorem dcX8_jonesAt_93 : decode cX8_jonesAt 93 = .ok (.ifCond .gt 54, 3) := dw_at cX8_jonesAt_k3 (p := 15) rfl (by decide +kernel)
theorem dcX8_jonesAt_96 : decode cX8_jonesAt 96 = .ok (.aload_n 0, 1) := dw_at cX8_jonesAt_k3 (p := 18) rfl (by decide +kernel)
theorem dcX8_jonesAt_97 : decode cX8_jonesAt 97 = .ok (.getfield 38, 3) := dw_at cX8_jonesAt_k3 (p := 19) rfl (by decide +kernel)
theorem dcX8_jonesAt_100 : decode cX8_jonesAt 100 = .ok (.iload 5, 2) := dw_at cX8_jonesAt_k3 (p := 22) rfl (by decide +kernel)
theorem dcX8_jonesAt_102 : decode cX8_jonesAt 102 = .ok (.bipush 24, 2) := dw_at cX8_jonesAt_k4 (p := 0) rfl (by decide +kernel)
theorem dcX8_jonesAt_104 : decode cX8_jonesAt 104 = .ok (.imul, 1) := dw_at cX8_jonesAt_k4 (p := 2) rfl (by decide +kernel)
theorem dcX8_jonesAt_105 : decode cX8_jonesAt 105 = .ok (.iload 6, 2) := dw_at cX8_jonesAt_k4 (p := 3) rfl (by decide +kernel)
theorem dcX8_jonesAt_107 : decode cX8_jonesAt 107 = .ok (.iadd, 1) := dw_at cX8_jonesAt_k4 (p := 5) rfl (by decide +kernel)
theorem dcX8_jonesAt_108 : decode cX8_jonesAt 108 = .ok (.iaload, 1) := dw_at cX8_jonesAt_k4 (p := 6) rfl (by decide +kernel)
theorem dcX8_jonesAt_109 : decode cX8_jonesAt 109 = .ok (.aload_n 0, 1) := dw_at cX8_jonesAt_k4 (p := 7) rfl (by decide +kernel)
theorem dcX8_jonesAt_110 : decode cX8_jonesAt 110 = .ok (.getfield 35, 3) := dw_at cX8_jonesAt_k4 (p := 8) rfl (by decide +kernel)
theorem dcX8_jonesAt_113 : decode cX8_jonesAt 113 = .ok (.iload 7, 2) := dw_at cX8_jonesAt_k4 (p := 11) rfl (by decide +kernel)
theorem dcX8_jonesAt_115 : decode cX8_jonesAt 115 = .ok (.aaload, 1) := dw_at cX8_jonesAt_k4 (p := 13) rfl (by decide +kernel)
theorem dcX8_jonesAt_116 : decode cX8_jonesAt 116 = .ok (.lload 8, 2) := dw_at cX8_jonesAt_k4 (p := 14) rfl (by decide +kernel)
theorem dcX8_jonesAt_118 : decode cX8_jonesAt 118 = .ok (.ldc2_w 138, 3) := dw_at cX8_jonesAt_k4 (p := 16) rfl (by decide +kernel)
theorem dcX8_jonesAt_121 : decode cX8_jonesAt 121 = .ok (.ldiv, 1) := dw_at cX8_jonesAt_k4 (p := 19) rfl (by decide +kernel)
theorem dcX8_jonesAt_122 : decode cX8_jonesAt 122 = .ok (.l2i, 1) := dw_at cX8_jonesAt_k4 (p := 20) rfl (by decide +kernel)
theorem dcX8_jonesAt_123 : decode cX8_jonesAt 123 = .ok (.iaload, 1) := dw_at cX8_jonesAt_k4 (p := 21) rfl (by decide +kernel)
theorem dcX8_jonesAt_124 : decode cX8_jonesAt 124 = .ok (.imul, 1) := dw_at cX8_jonesAt_k4 (p := 22) rfl (by decide +kernel)
theorem dcX8_jonesAt_125 : decode cX8_jonesAt 125 = .ok (.istore 10, 2) := dw_at cX8_jonesAt_k4 (p := 23) rfl (by decide +kernel)
theorem dcX8_jonesAt_127 : decode cX8_jonesAt 127 = .ok (.iload 4, 2) := dw_at cX8_jonesAt_k5 (p := 0) rfl (by decide +kernel)
theorem dcX8_jonesAt_129 : decode cX8_jonesAt 129 = .ok (.iload 7, 2) := dw_at cX8_jonesAt_k5 (p := 2) rfl (by decide +kernel)
theorem dcX8_jonesAt_131 : decode cX8_jonesAt 131 = .ok (.iconst 1, 1) := dw_at cX8_jonesAt_k5 (p := 4) rfl (by decide +kernel)
theorem dcX8_jonesAt_132 : decode cX8_jonesAt 132 = .ok (.iand, 1) := dw_at cX8_jonesAt_k5 (p := 5) rfl (by decide +kernel)
theorem dcX8_jonesAt_133 : decode cX8_jonesAt 133 = .ok (.ifCond .ne 8, 3) := dw_at cX8_jonesAt_k5 (p := 6) rfl (by decide +kernel)
theorem dcX8_jonesAt_136 : decode cX8_jonesAt 136 = .ok (.iload 10, 2) := dw_at cX8_jonesAt_k5 (p := 9) rfl (by decide +kernel)
theorem dcX8_jonesAt_138 : decode cX8_jonesAt 138 = .ok (.goto 6, 3) := dw_at cX8_jonesAt_k5 (p := 11) rfl (by decide +kernel)
theorem dcX8_jonesAt_141 : decode cX8_jonesAt 141 = .ok (.iload 10, 2) := dw_at cX8_jonesAt_k5 (p := 14) rfl (by decide +kernel)
theorem dcX8_jonesAt_143 : decode cX8_jonesAt 143 = .ok (.ineg, 1) := dw_at cX8_jonesAt_k5 (p := 16) rfl (by decide +kernel)
theorem dcX8_jonesAt_144 : decode cX8_jonesAt 144 = .ok (.iadd, 1) := dw_at cX8_jonesAt_k5 (p := 17) rfl (by decide +kernel)
theorem dcX8_jonesAt_145 : decode cX8_jonesAt 145 = .ok (.istore 4, 2) := dw_at cX8_jonesAt_k5 (p := 18) rfl (by decide +kernel)
theorem dcX8_jonesAt_147 : decode cX8_jonesAt 147 = .ok (.iinc 6 1, 3) := dw_at cX8_jonesAt_k5 (p := 20) rfl (by decide +kernel)
theorem dcX8_jonesAt_150 : decode cX8_jonesAt 150 = .ok (.goto (-118), 3) := dw_at cX8_jonesAt_k5 (p := 23) rfl (by decide +kernel)
theorem dcX8_jonesAt_153 : decode cX8_jonesAt 153 = .ok (.iinc 5 1, 3) := dw_at cX8_jonesAt_k6 (p := 0) rfl (by decide +kernel)
theorem dcX8_jonesAt_156 : decode cX8_jonesAt 156 = .ok (.goto (-139), 3) := dw_at cX8_jonesAt_k6 (p := 3) rfl (by decide +kernel)
theorem dcX8_jonesAt_159 : decode cX8_jonesAt 159 = .ok (.aload_n 0, 1) := dw_at cX8_jonesAt_k6 (p := 6) rfl (by decide +kernel)
theorem dcX8_jonesAt_160 : decode cX8_jonesAt 160 = .ok (.getfield 121, 3) := dw_at cX8_jonesAt_k6 (p := 7) rfl (by decide +kernel)
theorem dcX8_jonesAt_163 : decode cX8_jonesAt 163 = .ok (.iconst 1, 1) := dw_at cX8_jonesAt_k6 (p := 10) rfl (by decide +kernel)
theorem dcX8_jonesAt_164 : decode cX8_jonesAt 164 = .ok (.iand, 1) := dw_at cX8_jonesAt_k6 (p := 11) rfl (by decide +kernel)
theorem dcX8_jonesAt_165 : decode cX8_jonesAt 165 = .ok (.ifCond .ne 8, 3) := dw_at cX8_jonesAt_k6 (p := 12) rfl (by decide +kernel)
theorem dcX8_jonesAt_168 : decode cX8_jonesAt 168 = .ok (.iload 4, 2) := dw_at cX8_jonesAt_k6 (p := 15) rfl (by decide +kernel)
theorem dcX8_jonesAt_170 : decode cX8_jonesAt 170 = .ok (.goto 6, 3) := dw_at cX8_jonesAt_k6 (p := 17) rfl (by decide +kernel)
theorem dcX8_jonesAt_173 : decode cX8_jonesAt 173 = .ok (.iload 4, 2) := dw_at cX8_jonesAt_k6 (p := 20) rfl (by decide +kernel)
theorem dcX8_jonesAt_175 : decode cX8_jonesAt 175 = .ok (.ineg, 1) := dw_at cX8_jonesAt_k6 (p := 22) rfl (by decide +kernel)
theorem dcX8_jonesAt_176 : decode cX8_jonesAt 176 = .ok (.ireturn, 1) := dw_at cX8_jonesAt_k6 (p := 23) rfl (by decide +kernel)
def cm_X8_jonesAt_0 (vl : Nat → Nat) (K : Nat) (go : Nat → Int32 → Int32 → Int32 → Int32 → Int32 → Int32 → Int64 → Int64 → Nat → Int32 → Int32 → ow_MS → Option (Int32 × ow_MS)) (x1 : Int32) (x4 : Int32) (x5 : Int32) (x6 : Int32) (x7 : Int32) (x10 : Int32) (w2 : Int64) (w8 : Int64) (r0 : Nat) (t0 : Int32) (t1 : Int32) (z : ow_MS) : Option (Int32 × ow_MS) :=
 rdF z (r0 + 9) fun v1 => go 1 x1 0 0 0 0 0 (x1.toInt64 + ((3 * v1).toInt64)) 0 r0 0 0 z
def cm_X8_jonesAt_1 (vl : Nat → Nat) (K : Nat) (go : Nat → Int32 → Int32 → Int32 → Int32 → Int32 → Int32 → Int64 → Int64 → Nat → Int32 → Int32 → ow_MS → Option (Int32 × ow_MS)) (x1 : Int32) (x4 : Int32) (x5 : Int32) (x6 : Int32) (x7 : Int32) (x10 : Int32) (w2 : Int64) (w8 : Int64) (r0 : Nat) (t0 : Int32) (t1 : Int32) (z : ow_MS) : Option (Int32 × ow_MS) :=
 rdF z ((r0 + 16000) + 8) fun v2 => (if v2 < x5 then rdF z (r0 + 9) fun v3 => (if (v3 &&& 1) = 0 then some (x4, z)
 else some ((-x4), z))
 else go 2 x1 x4 x5 1 0 0 w2 0 r0 0 0 z)
def cm_X8_jonesAt_2 (vl : Nat → Nat) (K : Nat) (go : Nat → Int32 → Int32 → Int32 → Int32 → Int32 → Int32 → Int64 → Int64 → Nat → Int32 → Int32 → ow_MS → Option (Int32 × ow_MS)) (x1 : Int32) (x4 : Int32) (x5 : Int32) (x6 : Int32) (x7 : Int32) (x10 : Int32) (w2 : Int64) (w8 : Int64) (r0 : Nat) (t0 : Int32) (t1 : Int32) (z : ow_MS) : Option (Int32 × ow_MS) :=
 (if 24 ≤ x6 then go 1 x1 x4 (x5 + 1) 0 0 0 w2 0 r0 0 0 z
 else rdF z ((r0 + 16000) + 8) fun v4 => nzJ 4 ((if (lg_cmp (((((v4 - (2 * x5)) + (2 * (x6 - 1))).toInt64) - w2) - ((((v4 - (2 * x5)) + (2 * (x6 - 1))).toInt64) - w2) / 4 * 4) 0) = 0 then (if (lg_cmp ((((v4 - (2 * x5)) + (2 * (x6 - 1))).toInt64) - w2) 0) < 0 then go 4 x1 x4 x5 x6 (x6 - 1) 0 w2 ((((v4 - (2 * x5)) + (2 * (x6 - 1))).toInt64) - w2) r0 0 0 z
 else (if 0 < (lg_cmp ((((v4 - (2 * x5)) + (2 * (x6 - 1))).toInt64) - w2) ((4 * (x6 - 1)).toInt64)) then go 4 x1 x4 x5 x6 (x6 - 1) 0 w2 ((((v4 - (2 * x5)) + (2 * (x6 - 1))).toInt64) - w2) r0 0 0 z
 else crI (cX vl) z (r0 + 6) ((x5 * 24) + x6) fun v5 => crX 24 (x6 - 1) fun j6 => nzJ 4 (crI (cX vl) z (r0 + 15001 + j6) ((((((v4 - (2 * x5)) + (2 * (x6 - 1))).toInt64) - w2) / 4).toInt32) fun v7 => (if ((x6 - 1) &&& 1) = 0 then go 3 x1 x4 x5 x6 (x6 - 1) (v5 * v7) w2 ((((v4 - (2 * x5)) + (2 * (x6 - 1))).toInt64) - w2) r0 (v5 * v7) x4 z
 else go 3 x1 x4 x5 x6 (x6 - 1) (v5 * v7) w2 ((((v4 - (2 * x5)) + (2 * (x6 - 1))).toInt64) - w2) r0 (-(v5 * v7)) x4 z))))
 else go 4 x1 x4 x5 x6 (x6 - 1) 0 w2 ((((v4 - (2 * x5)) + (2 * (x6 - 1))).toInt64) - w2) r0 0 0 z)))
def cm_X8_jonesAt_3 (vl : Nat → Nat) (K : Nat) (go : Nat → Int32 → Int32 → Int32 → Int32 → Int32 → Int32 → Int64 → Int64 → Nat → Int32 → Int32 → ow_MS → Option (Int32 × ow_MS)) (x1 : Int32) (x4 : Int32) (x5 : Int32) (x6 : Int32) (x7 : Int32) (x10 : Int32) (w2 : Int64) (w8 : Int64) (r0 : Nat) (t0 : Int32) (t1 : Int32) (z : ow_MS) : Option (Int32 × ow_MS) :=
 go 4 x1 (t1 + t0) x5 x6 x7 0 w2 w8 r0 0 0 z
def cm_X8_jonesAt_4 (vl : Nat → Nat) (K : Nat) (go : Nat → Int32 → Int32 → Int32 → Int32 → Int32 → Int32 → Int64 → Int64 → Nat → Int32 → Int32 → ow_MS → Option (Int32 × ow_MS)) (x1 : Int32) (x4 : Int32) (x5 : Int32) (x6 : Int32) (x7 : Int32) (x10 : Int32) (w2 : Int64) (w8 : Int64) (r0 : Nat) (t0 : Int32) (t1 : Int32) (z : ow_MS) : Option (Int32 × ow_MS) :=
 go 2 x1 x4 x5 (x6 + 1) 0 0 w2 0 r0 0 0 z
def cb_X8_jonesAt (vl : Nat → Nat) (K : Nat) (go : Nat → Int32 → Int32 → Int32 → Int32 → Int32 → Int32 → Int64 → Int64 → Nat → Int32 → Int32 → ow_MS → Option (Int32 × ow_MS)) (L : Nat) (x1 : Int32) (x4 : Int32) (x5 : Int32) (x6 : Int32) (x7 : Int32) (x10 : Int32) (w2 : Int64) (w8 : Int64) (r0 : Nat) (t0 : Int32) (t1 : Int32) (z : ow_MS) : Option (Int32 × ow_MS) := match L with
  | 0 => cm_X8_jonesAt_0 vl K go x1 x4 x5 x6 x7 x10 w2 w8 r0 t0 t1 z
  | 1 => cm_X8_jonesAt_1 vl K go x1 x4 x5 x6 x7 x10 w2 w8 r0 t0 t1 z
  | 2 => cm_X8_jonesAt_2 vl K go x1 x4 x5 x6 x7 x10 w2 w8 r0 t0 t1 z
  | 3 => cm_X8_jonesAt_3 vl K go x1 x4 x5 x6 x7 x10 w2 w8 r0 t0 t1 z
  | 4 => cm_X8_jonesAt_4 vl K go x1 x4 x5 x6 x7 x10 w2 w8 r0 t0 t1 z
  | _ => none
def c_X8_jonesAt (vl : Nat → Nat) (K : Nat) : Nat → Nat → Int32 → Int32 → Int32 → Int32 → Int32 → Int32 → Int64 → Int64 → Nat → Int32 → Int32 → ow_MS → Option (Int32 × ow_MS)
  | 0 => fun _ _ _ _ _ _ _ _ _ _ _ _ _ => none
  | k + 1 => cb_X8_jonesAt vl K (c_X8_jonesAt vl K k)
def ce_X8_jonesAt (vl : Nat → Nat) (K : Nat) (r0 : Nat) (x1 : Int32) (z : ow_MS) : Option (Int32 × ow_MS) := c_X8_jonesAt vl K K 0 x1 0 0 0 0 0 0 0 r0 0 0 z
abbrev wc_X8_jonesAt : List Cond := .code yX8_jonesAt cX8_jonesAt 11 (some .int) :: wC
theorem cdd_X8_jonesAt : yX8_jonesAt.cls = RX8 ∧ yX8_jonesAt.cls ≠ "java/lang/invoke/MethodHandle" ∧ yX8_jonesAt.cls ≠ "java/lang/invoke/VarHandle" ∧ (parseMethodDescriptor yX8_jonesAt.desc).map (fun d => d.parameters.length) = some 1 := by decide +kernel
set_option maxHeartbeats 4000000 in
set_option maxRecDepth 100000 in
theorem kc_X8_jonesAt (l : Launch) (D : va_G) (q : Nat → ClassId) (vl u : Nat → Nat) (hU0 : tw_inj (cX vl) u) (K : Nat) (r0 : Nat) (x1 : Int32) (hr0 : cw_X8 r0) (z z1 : ow_MS) (r : Int32) (hq : ce_X8_jonesAt vl K r0 x1 z = some (r, z1)) : Met l yX8_jonesAt wc_X8_jonesAt ({ frames := 0, cells := 0, slots := 0, locals := 0 } : Room) (va_Pc [.ref (u r0), .int x1] (cw_pre D q vl u z)) (va_Qi (fun x (_ : Unit) => x = r) (fun _ t => va_P D vwCl (uw (cX vl) q u z1) t.heap) (tw_A (cX vl) u)) 0 0 (tw_A (cX vl) u) := by
  refine Met.ofW (cc := cX8_jonesAt) (maxL := 11) (ret := (some .int)) (by decide) rfl ?_
  intro p e s m args below meth c s₁ B hml hv
  obtain ⟨rfl, hP, hK⟩ := hv
  have hx := B.exec
  have hb := B.bytes
  have hr := B.returns
  have hts := atoms_spec (ws := wc_X8_jonesAt) B.pre
  have hT : ∀ w ∈ wC, w.before ([.ref (u r0), .int x1] : List Value).toArray s = true := fun w h => hts w (List.mem_cons_of_mem _ h)
  have hown : s.vm.findClass RX8 = some m.cls := findClass_of_methodNamed B.named
  have hlocks := B.notSynchronized
  have hU : uw_inj (cX vl) u (tw_A (cX vl) u) := ⟨hU0, fun h hh => ⟨h, hh, rfl⟩⟩
  have hM : uw_M D vwCl (cX vl) q (tw_A (cX vl) u) s.heap u z s.heap [] := ⟨hP, va_S.rf⟩
  have hl := lv_entry ([.ref (u r0), .int x1]) (n := 11) (Nat.le_of_ble_eq_true rfl)
  rw [lg_entry_eq]
  generalize (lg_sl ([.ref (u r0), .int x1]) ++ List.replicate (11 - (lg_sl ([.ref (u r0), .int x1])).length) Slot.unset).toArray = ls at hl ⊢
  have hl : lv_has ls 11 [(0, .ref (u r0)), (1, .int x1)] := hl
  refine ow_named (fun QQ hQQ => ?_)
  generalize ([.ref (u r0), .int x1] : List Value).toArray = args at hts hT hQQ ⊢
  have key : ∀ k : Nat, (∀ (x1 : Int32) (x4 : Int32) (x5 : Int32) (x6 : Int32) (x7 : Int32) (x10 : Int32) (w2 : Int64) (w8 : Int64) (r0 : Nat) (t0 : Int32) (t1 : Int32) (z : ow_MS) (H : Heap) (locs : List Loc) (ls : Array Slot), cw_X8 r0 → uw_M D vwCl (cX vl) q (tw_A (cX vl) u) s.heap u z H locs → lv_has ls 11 [(0, .ref (u r0)), (1, .int x1)] → c_X8_jonesAt vl K k 0 x1 x4 x5 x6 x7 x10 w2 w8 r0 t0 t1 z = some (r, z1) → W p l e ({ frames := 0, cells := 0, slots := 0, locals := 0 } : Room) s m args below meth c H locs 0 0 QQ (F0 m 0 ls [])) ∧ (∀ (x1 : Int32) (x4 : Int32) (x5 : Int32) (x6 : Int32) (x7 : Int32) (x10 : Int32) (w2 : Int64) (w8 : Int64) (r0 : Nat) (t0 : Int32) (t1 : Int32) (z : ow_MS) (H : Heap) (locs : List Loc) (ls : Array Slot), cw_X8 r0 → uw_M D vwCl (cX vl) q (tw_A (cX vl) u) s.heap u z H locs → lv_has ls 11 [(0, .ref (u r0)), (1, .int x1), (2, .long w2), (4, .int x4), (5, .int x5)] → c_X8_jonesAt vl K k 1 x1 x4 x5 x6 x7 x10 w2 w8 r0 t0 t1 z = some (r, z1) → W p l e ({ frames := 0, cells := 0, slots := 0, locals := 0 } : Room) s m args below meth c H locs 0 0 QQ (F0 m 17 ls [])) ∧ (∀ (x1 : Int32) (x4 : Int32) (x5 : Int32) (x6 : Int32) (x7 : Int32) (x10 : Int32) (w2 : Int64) (w8 : Int64) (r0 : Nat) (t0 : Int32) (t1 : Int32) (z : ow_MS) (H : Heap) (locs : List Loc) (ls : Array Slot), cw_X8 r0 → uw_M D vwCl (cX vl) q (tw_A (cX vl) u) s.heap u z H locs → lv_has ls 11 [(0, .ref (u r0)), (1, .int x1), (2, .long w2), (4, .int x4), (5, .int x5), (6, .int x6)] → c_X8_jonesAt vl K k 2 x1 x4 x5 x6 x7 x10 w2 w8 r0 t0 t1 z = some (r, z1) → W p l e ({ frames := 0, cells := 0, slots := 0, locals := 0 } : Room) s m args below meth c H locs 0 0 QQ (F0 m 32 ls [])) ∧ (∀ (x1 : Int32) (x4 : Int32) (x5 : Int32) (x6 : Int32) (x7 : Int32) (x10 : Int32) (w2 : Int64) (w8 : Int64) (r0 : Nat) (t0 : Int32) (t1 : Int32) (z : ow_MS) (H : Heap) (locs : List Loc) (ls : Array Slot), cw_X8 r0 → uw_M D vwCl (cX vl) q (tw_A (cX vl) u) s.heap u z H locs → lv_has ls 11 [(0, .ref (u r0)), (1, .int x1), (2, .long w2), (4, .int x4), (5, .int x5), (6, .int x6), (7, .int x7), (8, .long w8), (10, .int x10)] → c_X8_jonesAt vl K k 3 x1 x4 x5 x6 x7 x10 w2 w8 r0 t0 t1 z = some (r, z1) → W p l e ({ frames := 0, cells := 0, slots := 0, locals := 0 } : Room) s m args below meth c H locs 0 0 QQ (F0 m 144 ls [.int t0, .int t1])) ∧ (∀ (x1 : Int32) (x4 : Int32) (x5 : Int32) (x6 : Int32) (x7 : Int32) (x10 : Int32) (w2 : Int64) (w8 : Int64) (r0 : Nat) (t0 : Int32) (t1 : Int32) (z : ow_MS) (H : Heap) (locs : List Loc) (ls : Array Slot), cw_X8 r0 → uw_M D vwCl (cX vl) q (tw_A (cX vl) u) s.heap u z H locs → lv_has ls 11 [(0, .ref (u r0)), (1, .int x1), (2, .long w2), (4, .int x4), (5, .int x5), (6, .int x6), (7, .int x7), (8, .long w8)] → c_X8_jonesAt vl K k 4 x1 x4 x5 x6 x7 x10 w2 w8 r0 t0 t1 z = some (r, z1) → W p l e ({ frames := 0, cells := 0, slots := 0, locals := 0 } : Room) s m args below meth c H locs 0 0 QQ (F0 m 147 ls [])) := by
    intro k
    induction k with
    | zero => exact ⟨fun _ _ _ _ _ _ _ _ _ _ _ _ _ _ _ _ _ _ hq => cw_no hq, fun _ _ _ _ _ _ _ _ _ _ _ _ _ _ _ _ _ _ hq => cw_no hq, fun _ _ _ _ _ _ _ _ _ _ _ _ _ _ _ _ _ _ hq => cw_no hq, fun _ _ _ _ _ _ _ _ _ _ _ _ _ _ _ _ _ _ hq => cw_no hq, fun _ _ _ _ _ _ _ _ _ _ _ _ _ _ _ _ _ _ hq => cw_no hq⟩
    | succ k ih =>
      obtain ⟨ih_0, ih_1, ih_2, ih_3, ih_4⟩ := ih
      refine ⟨?_, ?_, ?_, ?_, ?_⟩
      · intro x1 x4 x5 x6 x7 x10 w2 w8 r0 t0 t1 z H locs ls hr0 hM hl hq
        have hq : cm_X8_jonesAt_0 vl K (c_X8_jonesAt vl K k) x1 x4 x5 x6 x7 x10 w2 w8 r0 t0 t1 z = some (r, z1) := hq
        unfold cm_X8_jonesAt_0 at hq
        refine lv_iload_n hx hb dcX8_jonesAt_0 rfl (lv_at hl 1 rfl) ?_
        refine lv_i2l hx hb dcX8_jonesAt_1 rfl ?_
        refine lv_iconst (v := 3) hx hb dcX8_jonesAt_2 (by decide) ?_
        refine lv_aload_n hx hb dcX8_jonesAt_3 rfl (lv_at hl 0 rfl) ?_
        refine vgX8_121 hx hb hT hown hK hM hr0 hq dcX8_jonesAt_4 (fun v1 hq => ?_)
        refine lv_imul hx hb dcX8_jonesAt_7 ?_
        refine lv_i2l hx hb dcX8_jonesAt_8 rfl ?_
        refine lv_ladd hx hb dcX8_jonesAt_9 ?_
        refine lv_lstore_n (lv' := [(2, .long (x1.toInt64 + ((3 * v1).toInt64))), (0, .ref (u r0)), (1, .int x1)]) hx hb dcX8_jonesAt_10 rfl hl (by decide) rfl (fun ls hl => ?_)
        refine lv_iconst (v := 0) hx hb dcX8_jonesAt_11 (by decide) ?_
        refine lv_istore (lv' := [(4, .int 0), (2, .long (x1.toInt64 + ((3 * v1).toInt64))), (0, .ref (u r0)), (1, .int x1)]) hx hb dcX8_jonesAt_12 hl (by decide) rfl (fun ls hl => ?_)
        refine lv_iconst (v := 0) hx hb dcX8_jonesAt_14 (by decide) ?_
        refine lv_istore (lv' := [(5, .int 0), (4, .int 0), (2, .long (x1.toInt64 + ((3 * v1).toInt64))), (0, .ref (u r0)), (1, .int x1)]) hx hb dcX8_jonesAt_15 hl (by decide) rfl (fun ls hl => ?_)
        exact ih_1 x1 0 0 0 0 0 (x1.toInt64 + ((3 * v1).toInt64)) 0 r0 0 0 z H locs ls hr0 hM (lv_sub hl [3, 4, 2, 1, 0] rfl) hq
      · intro x1 x4 x5 x6 x7 x10 w2 w8 r0 t0 t1 z H locs ls hr0 hM hl hq
        have hq : cm_X8_jonesAt_1 vl K (c_X8_jonesAt vl K k) x1 x4 x5 x6 x7 x10 w2 w8 r0 t0 t1 z = some (r, z1) := hq
        unfold cm_X8_jonesAt_1 at hq
        refine lv_iload hx hb dcX8_jonesAt_17 (lv_at hl 4 rfl) ?_
        refine lv_aload_n hx hb dcX8_jonesAt_19 rfl (lv_at hl 0 rfl) ?_
        refine vgX8_45 hx hb hT hown hK hM hr0 dcX8_jonesAt_20 ?_
        refine vgX8_79 hx hb hT hown hK hM (cs_X8_7 hr0) hq dcX8_jonesAt_23 (fun v2 hq => ?_)
        refine lv_icmp_gt (tgt := 159) hx hb dcX8_jonesAt_26 (by decide) (fun hc => ?_) (fun hc => ?_)
        · have hq := tw_it hq hc
          refine lv_aload_n hx hb dcX8_jonesAt_159 rfl (lv_at hl 0 rfl) ?_
          refine vgX8_121 hx hb hT hown hK hM hr0 hq dcX8_jonesAt_160 (fun v3 hq => ?_)
          refine lv_iconst (v := 1) hx hb dcX8_jonesAt_163 (by decide) ?_
          refine lv_iand hx hb dcX8_jonesAt_164 ?_
          refine lv_if_ne (tgt := 173) hx hb dcX8_jonesAt_165 (by decide) (fun hc => ?_) (fun hc => ?_)
          · have hq := tw_if hq hc
            refine lv_iload hx hb dcX8_jonesAt_173 (lv_at hl 3 rfl) ?_
            refine lv_ineg hx hb dcX8_jonesAt_175 ?_
            exact cw_iret hx hb hr hlocks hM hq hQQ dcX8_jonesAt_176
          · have hq := tw_it hq hc
            refine lv_iload hx hb dcX8_jonesAt_168 (lv_at hl 3 rfl) ?_
            refine lv_goto (tgt := 176) hx hb dcX8_jonesAt_170 (by decide) ?_
            exact cw_iret hx hb hr hlocks hM hq hQQ dcX8_jonesAt_176
        · have hq := tw_if hq hc
          refine lv_iconst (v := 1) hx hb dcX8_jonesAt_29 (by decide) ?_
          refine lv_istore (lv' := [(6, .int 1), (0, .ref (u r0)), (1, .int x1), (2, .long w2), (4, .int x4), (5, .int x5)]) hx hb dcX8_jonesAt_30 hl (by decide) rfl (fun ls hl => ?_)
          exact ih_2 x1 x4 x5 1 0 0 w2 0 r0 0 0 z H locs ls hr0 hM (lv_sub hl [1, 2, 3, 4, 5, 0] rfl) hq
      · intro x1 x4 x5 x6 x7 x10 w2 w8 r0 t0 t1 z H locs ls hr0 hM hl hq
        have hq : cm_X8_jonesAt_2 vl K (c_X8_jonesAt vl K k) x1 x4 x5 x6 x7 x10 w2 w8 r0 t0 t1 z = some (r, z1) := hq
        unfold cm_X8_jonesAt_2 at hq
        refine lv_iload hx hb dcX8_jonesAt_32 (lv_at hl 5 rfl) ?_
        refine lv_bipush (v := 24) hx hb dcX8_jonesAt_34 (by decide) ?_
        refine lv_icmp_ge (tgt := 153) hx hb dcX8_jonesAt_36 (by decide) (fun hc => ?_) (fun hc => ?_)
        · have hq := tw_it hq hc
          refine lv_iinc (v := (x5 + 1)) (lv' := [(5, .int (x5 + 1)), (0, .ref (u r0)), (1, .int x1), (2, .long w2), (4, .int x4), (6, .int x6)]) hx hb dcX8_jonesAt_153 hl (k := 4) rfl rfl (by decide) rfl (fun ls hl => ?_)
          refine lv_goto (tgt := 17) hx hb dcX8_jonesAt_156 (by decide) ?_
          exact ih_1 x1 x4 (x5 + 1) 0 0 0 w2 0 r0 0 0 z H locs ls hr0 hM (lv_sub hl [1, 2, 3, 4, 0] rfl) hq
        · have hq := tw_if hq hc
          refine lv_iload hx hb dcX8_jonesAt_39 (lv_at hl 5 rfl) ?_
          refine lv_iconst (v := 1) hx hb dcX8_jonesAt_41 (by decide) ?_
          refine lv_isub hx hb dcX8_jonesAt_42 ?_
          refine lv_istore (lv' := [(7, .int (x6 - 1)), (0, .ref (u r0)), (1, .int x1), (2, .long w2), (4, .int x4), (5, .int x5), (6, .int x6)]) hx hb dcX8_jonesAt_43 hl (by decide) rfl (fun ls hl => ?_)
          refine lv_aload_n hx hb dcX8_jonesAt_45 rfl (lv_at hl 1 rfl) ?_
          refine vgX8_45 hx hb hT hown hK hM hr0 dcX8_jonesAt_46 ?_
          refine vgX8_79 hx hb hT hown hK hM (cs_X8_7 hr0) hq dcX8_jonesAt_49 (fun v4 hq => ?_)
          refine lv_iconst (v := 2) hx hb dcX8_jonesAt_52 (by decide) ?_
          refine lv_iload hx hb dcX8_jonesAt_53 (lv_at hl 5 rfl) ?_
          refine lv_imul hx hb dcX8_jonesAt_55 ?_
          refine lv_isub hx hb dcX8_jonesAt_56 ?_
          refine lv_iconst (v := 2) hx hb dcX8_jonesAt_57 (by decide) ?_
          refine lv_iload hx hb dcX8_jonesAt_58 (lv_at hl 0 rfl) ?_
          refine lv_imul hx hb dcX8_jonesAt_60 ?_
          refine lv_iadd hx hb dcX8_jonesAt_61 ?_
          refine lv_i2l hx hb dcX8_jonesAt_62 rfl ?_
          refine lv_lload_n hx hb dcX8_jonesAt_63 rfl (lv_at hl 3 rfl) ?_
          refine lv_lsub hx hb dcX8_jonesAt_64 ?_
          refine lv_lstore (lv' := [(8, .long ((((v4 - (2 * x5)) + (2 * (x6 - 1))).toInt64) - w2)), (7, .int (x6 - 1)), (0, .ref (u r0)), (1, .int x1), (2, .long w2), (4, .int x4), (5, .int x5), (6, .int x6)]) hx hb dcX8_jonesAt_65 hl (by decide) rfl (fun ls hl => ?_)
          refine lv_lload hx hb dcX8_jonesAt_67 (lv_at hl 0 rfl) ?_
          refine lv_ldc2 (v := 4) hx hb hown (hT _ xq_661) dcX8_jonesAt_69 ?_
          obtain ⟨hz, hq⟩ := tw_nzJ hq
          refine lv_lrem hx hb dcX8_jonesAt_72 hz ?_
          refine lv_lconst (v := 0) hx hb dcX8_jonesAt_73 rfl ?_
          refine W.lcmp hx hb dcX8_jonesAt_74 ?_
          refine lv_if_ne (tgt := 147) hx hb dcX8_jonesAt_75 (by decide) (fun hc => ?_) (fun hc => ?_)
          · have hq := tw_if hq hc
            exact ih_4 x1 x4 x5 x6 (x6 - 1) 0 w2 ((((v4 - (2 * x5)) + (2 * (x6 - 1))).toInt64) - w2) r0 0 0 z H locs ls hr0 hM (lv_sub hl [2, 3, 4, 5, 6, 7, 1, 0] rfl) hq
          · have hq := tw_it hq hc
            refine lv_lload hx hb dcX8_jonesAt_78 (lv_at hl 0 rfl) ?_
            refine lv_lconst (v := 0) hx hb dcX8_jonesAt_80 rfl ?_
            refine W.lcmp hx hb dcX8_jonesAt_81 ?_
            refine lv_if_lt (tgt := 147) hx hb dcX8_jonesAt_82 (by decide) (fun hc => ?_) (fun hc => ?_)
            · have hq := tw_it hq hc
              exact ih_4 x1 x4 x5 x6 (x6 - 1) 0 w2 ((((v4 - (2 * x5)) + (2 * (x6 - 1))).toInt64) - w2) r0 0 0 z H locs ls hr0 hM (lv_sub hl [2, 3, 4, 5, 6, 7, 1, 0] rfl) hq
            · have hq := tw_if hq hc
              refine lv_lload hx hb dcX8_jonesAt_85 (lv_at hl 0 rfl) ?_
              refine lv_iconst (v := 4) hx hb dcX8_jonesAt_87 (by decide) ?_
              refine lv_iload hx hb dcX8_jonesAt_88 (lv_at hl 1 rfl) ?_
              refine lv_imul hx hb dcX8_jonesAt_90 ?_
              refine lv_i2l hx hb dcX8_jonesAt_91 rfl ?_
              refine W.lcmp hx hb dcX8_jonesAt_92 ?_
              refine lv_if_gt (tgt := 147) hx hb dcX8_jonesAt_93 (by decide) (fun hc => ?_) (fun hc => ?_)
              · have hq := tw_it hq hc
                exact ih_4 x1 x4 x5 x6 (x6 - 1) 0 w2 ((((v4 - (2 * x5)) + (2 * (x6 - 1))).toInt64) - w2) r0 0 0 z H locs ls hr0 hM (lv_sub hl [2, 3, 4, 5, 6, 7, 1, 0] rfl) hq
              · have hq := tw_if hq hc
                refine lv_aload_n hx hb dcX8_jonesAt_96 rfl (lv_at hl 2 rfl) ?_
                refine vgX8_38 hx hb hT hown hK hM hr0 dcX8_jonesAt_97 ?_
                refine lv_iload hx hb dcX8_jonesAt_100 (lv_at hl 6 rfl) ?_
                refine lv_bipush (v := 24) hx hb dcX8_jonesAt_102 (by decide) ?_
                refine lv_imul hx hb dcX8_jonesAt_104 ?_
                refine lv_iload hx hb dcX8_jonesAt_105 (lv_at hl 7 rfl) ?_
                refine lv_iadd hx hb dcX8_jonesAt_107 ?_
                refine uw_iald cX_ok hx hb hK hM (cr_X8_5 hr0) hq dcX8_jonesAt_108 (fun v5 hq => ?_)
                refine lv_aload_n hx hb dcX8_jonesAt_109 rfl (lv_at hl 2 rfl) ?_
                refine vgX8_35 hx hb hT hown hK hM hr0 dcX8_jonesAt_110 ?_
                refine lv_iload hx hb dcX8_jonesAt_113 (lv_at hl 1 rfl) ?_
                refine ca_X8_4 hx hb hK hM hr0 hq dcX8_jonesAt_115 (fun j6 hj6 hq => ?_)
                refine lv_lload hx hb dcX8_jonesAt_116 (lv_at hl 0 rfl) ?_
                refine lv_ldc2 (v := 4) hx hb hown (hT _ xq_661) dcX8_jonesAt_118 ?_
                obtain ⟨hz, hq⟩ := tw_nzJ hq
                refine lv_ldiv hx hb dcX8_jonesAt_121 hz ?_
                refine lv_l2i hx hb dcX8_jonesAt_122 rfl ?_
                refine uw_iald cX_ok hx hb hK hM (cg_X8_4 hr0 hj6) hq dcX8_jonesAt_123 (fun v7 hq => ?_)
                refine lv_imul hx hb dcX8_jonesAt_124 ?_
                refine lv_istore (lv' := [(10, .int (v5 * v7)), (8, .long ((((v4 - (2 * x5)) + (2 * (x6 - 1))).toInt64) - w2)), (7, .int (x6 - 1)), (0, .ref (u r0)), (1, .int x1), (2, .long w2), (4, .int x4), (5, .int x5), (6, .int x6)]) hx hb dcX8_jonesAt_125 hl (by decide) rfl (fun ls hl => ?_)
                refine lv_iload hx hb dcX8_jonesAt_127 (lv_at hl 6 rfl) ?_
                refine lv_iload hx hb dcX8_jonesAt_129 (lv_at hl 2 rfl) ?_
                refine lv_iconst (v := 1) hx hb dcX8_jonesAt_131 (by decide) ?_
                refine lv_iand hx hb dcX8_jonesAt_132 ?_
                refine lv_if_ne (tgt := 141) hx hb dcX8_jonesAt_133 (by decide) (fun hc => ?_) (fun hc => ?_)
                · have hq := tw_if hq hc
                  refine lv_iload hx hb dcX8_jonesAt_141 (lv_at hl 0 rfl) ?_
                  refine lv_ineg hx hb dcX8_jonesAt_143 ?_
                  exact ih_3 x1 x4 x5 x6 (x6 - 1) (v5 * v7) w2 ((((v4 - (2 * x5)) + (2 * (x6 - 1))).toInt64) - w2) r0 (-(v5 * v7)) x4 z H locs ls hr0 hM (lv_sub hl [3, 4, 5, 6, 7, 8, 2, 1, 0] rfl) hq
                · have hq := tw_it hq hc
                  refine lv_iload hx hb dcX8_jonesAt_136 (lv_at hl 0 rfl) ?_
                  refine lv_goto (tgt := 144) hx hb dcX8_jonesAt_138 (by decide) ?_
                  exact ih_3 x1 x4 x5 x6 (x6 - 1) (v5 * v7) w2 ((((v4 - (2 * x5)) + (2 * (x6 - 1))).toInt64) - w2) r0 (v5 * v7) x4 z H locs ls hr0 hM (lv_sub hl [3, 4, 5, 6, 7, 8, 2, 1, 0] rfl) hq
      · intro x1 x4 x5 x6 x7 x10 w2 w8 r0 t0 t1 z H locs ls hr0 hM hl hq
        have hq : cm_X8_jonesAt_3 vl K (c_X8_jonesAt vl K k) x1 x4 x5 x6 x7 x10 w2 w8 r0 t0 t1 z = some (r, z1) := hq
        unfold cm_X8_jonesAt_3 at hq
        refine lv_iadd hx hb dcX8_jonesAt_144 ?_
        refine lv_istore (lv' := [(4, .int (t1 + t0)), (0, .ref (u r0)), (1, .int x1), (2, .long w2), (5, .int x5), (6, .int x6), (7, .int x7), (8, .long w8), (10, .int x10)]) hx hb dcX8_jonesAt_145 hl (by decide) rfl (fun ls hl => ?_)
        exact ih_4 x1 (t1 + t0) x5 x6 x7 0 w2 w8 r0 0 0 z H locs ls hr0 hM (lv_sub hl [1, 2, 3, 0, 4, 5, 6, 7] rfl) hq
      · intro x1 x4 x5 x6 x7 x10 w2 w8 r0 t0 t1 z H locs ls hr0 hM hl hq
        have hq : cm_X8_jonesAt_4 vl K (c_X8_jonesAt vl K k) x1 x4 x5 x6 x7 x10 w2 w8 r0 t0 t1 z = some (r, z1) := hq
        unfold cm_X8_jonesAt_4 at hq
        refine lv_iinc (v := (x6 + 1)) (lv' := [(6, .int (x6 + 1)), (0, .ref (u r0)), (1, .int x1), (2, .long w2), (4, .int x4), (5, .int x5), (7, .int x7), (8, .long w8)]) hx hb dcX8_jonesAt_147 hl (k := 5) rfl rfl (by decide) rfl (fun ls hl => ?_)
        refine lv_goto (tgt := 32) hx hb dcX8_jonesAt_150 (by decide) ?_
        exact ih_2 x1 x4 x5 (x6 + 1) 0 0 w2 0 r0 0 0 z H locs ls hr0 hM (lv_sub hl [1, 2, 3, 4, 5, 0] rfl) hq
  exact (key K).1 x1 0 0 0 0 0 0 0 r0 0 0 z s.heap [] ls hr0 hM (lv_sub hl [0, 1] rfl) hq
