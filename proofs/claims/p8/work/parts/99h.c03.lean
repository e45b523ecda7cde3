theorem dcX7_link_0 : decode cX7_link 0 = .ok (.aload_n 0, 1) := by decide +kernel
theorem dcX7_link_1 : decode cX7_link 1 = .ok (.getfield 9, 3) := by decide +kernel
theorem dcX7_link_4 : decode cX7_link 4 = .ok (.iload_n 1, 1) := by decide +kernel
theorem dcX7_link_5 : decode cX7_link 5 = .ok (.iload_n 2, 1) := by decide +kernel
theorem dcX7_link_6 : decode cX7_link 6 = .ok (.iastore, 1) := by decide +kernel
theorem dcX7_link_7 : decode cX7_link 7 = .ok (.aload_n 0, 1) := by decide +kernel
theorem dcX7_link_8 : decode cX7_link 8 = .ok (.getfield 15, 3) := by decide +kernel
theorem dcX7_link_11 : decode cX7_link 11 = .ok (.iload_n 2, 1) := by decide +kernel
theorem dcX7_link_12 : decode cX7_link 12 = .ok (.iload_n 1, 1) := by decide +kernel
theorem dcX7_link_13 : decode cX7_link 13 = .ok (.iastore, 1) := by decide +kernel
theorem dcX7_link_14 : decode cX7_link 14 = .ok (.return_, 1) := by decide +kernel
def cm_X7_link_0 (vl : Nat → Nat) (K : Nat) (x1 : Int32) (x2 : Int32) (r0 : Nat) (z : ow_MS) : Option ow_MS :=
 ctI (cX vl) z (r0 + 1) x1 x2 fun z1 => ctI (cX vl) z1 (r0 + 2) x2 x1 fun z2 => some z2
def ce_X7_link (vl : Nat → Nat) (K : Nat) (r0 : Nat) (x1 : Int32) (x2 : Int32) (z : ow_MS) : Option ow_MS := cm_X7_link_0 vl K x1 x2 r0 z
abbrev wc_X7_link : List Cond := .code yX7_link cX7_link 3 none :: wC
theorem cdd_X7_link : yX7_link.cls = RX7 ∧ yX7_link.cls ≠ "java/lang/invoke/MethodHandle" ∧ yX7_link.cls ≠ "java/lang/invoke/VarHandle" ∧ (parseMethodDescriptor yX7_link.desc).map (fun d => d.parameters.length) = some 2 := by decide +kernel
set_option maxHeartbeats 4000000 in
set_option maxRecDepth 100000 in
theorem kc_X7_link (l : Launch) (D : va_G) (q : Nat → ClassId) (vl u : Nat → Nat) (hU0 : tw_inj (cX vl) u) (K : Nat) (r0 : Nat) (x1 : Int32) (x2 : Int32) (hr0 : cw_X7 r0) (z z1 : ow_MS) (hq : ce_X7_link vl K r0 x1 x2 z = some z1) : Met l yX7_link wc_X7_link ({ frames := 0, cells := 0, slots := 0, locals := 0 } : Room) (va_Pc [.ref (u r0), .int x1, .int x2] (cw_pre D q vl u z)) (va_Qv (fun (_ : Unit) => True) (fun _ t => va_P D vwCl (uw (cX vl) q u z1) t.heap) (tw_A (cX vl) u)) 0 0 (tw_A (cX vl) u) := by
  refine Met.ofW (cc := cX7_link) (maxL := 3) (ret := none) (by decide) rfl ?_
  intro p e s m args below meth c s₁ B hml hv
  obtain ⟨rfl, hP, hK⟩ := hv
  have hx := B.exec
  have hb := B.bytes
  have hr := B.returns
  have hts := atoms_spec (ws := wc_X7_link) B.pre
  have hT : ∀ w ∈ wC, w.before ([.ref (u r0), .int x1, .int x2] : List Value).toArray s = true := fun w h => hts w (List.mem_cons_of_mem _ h)
  have hown : s.vm.findClass RX7 = some m.cls := findClass_of_methodNamed B.named
  have hlocks := B.notSynchronized
  have hU : uw_inj (cX vl) u (tw_A (cX vl) u) := ⟨hU0, fun h hh => ⟨h, hh, rfl⟩⟩
  have hM : uw_M D vwCl (cX vl) q (tw_A (cX vl) u) s.heap u z s.heap [] := ⟨hP, va_S.rf⟩
  have hl := lv_entry ([.ref (u r0), .int x1, .int x2]) (n := 3) (Nat.le_of_ble_eq_true rfl)
  rw [lg_entry_eq]
  generalize (lg_sl ([.ref (u r0), .int x1, .int x2]) ++ List.replicate (3 - (lg_sl ([.ref (u r0), .int x1, .int x2])).length) Slot.unset).toArray = ls at hl ⊢
  have hl : lv_has ls 3 [(0, .ref (u r0)), (1, .int x1), (2, .int x2)] := hl
  refine ow_named (fun QQ hQQ => ?_)
  generalize ([.ref (u r0), .int x1, .int x2] : List Value).toArray = args at hts hT hQQ ⊢
  have hq : cm_X7_link_0 vl K x1 x2 r0 z = some z1 := hq
  unfold cm_X7_link_0 at hq
  suffices key : ∀ (H : Heap) (locs : List Loc), uw_M D vwCl (cX vl) q (tw_A (cX vl) u) s.heap u z H locs → W p l e ({ frames := 0, cells := 0, slots := 0, locals := 0 } : Room) s m args below meth c H locs 0 0 QQ (F0 m 0 ls []) from key s.heap [] hM
  intro H locs hM
  refine lv_aload_n hx hb dcX7_link_0 rfl (lv_at hl 0 rfl) ?_
  refine vgX7_9 hx hb hT hown hK hM hr0 dcX7_link_1 ?_
  refine lv_iload_n hx hb dcX7_link_4 rfl (lv_at hl 1 rfl) ?_
  refine lv_iload_n hx hb dcX7_link_5 rfl (lv_at hl 2 rfl) ?_
  refine uw_iast cX_ok hU hx hb hK hM (cr_X7_0 hr0) hq dcX7_link_6 (fun z1 H locs hM hq => ?_)
  refine lv_aload_n hx hb dcX7_link_7 rfl (lv_at hl 0 rfl) ?_
  refine vgX7_15 hx hb hT hown hK hM hr0 dcX7_link_8 ?_
  refine lv_iload_n hx hb dcX7_link_11 rfl (lv_at hl 2 rfl) ?_
  refine lv_iload_n hx hb dcX7_link_12 rfl (lv_at hl 1 rfl) ?_
  refine uw_iast cX_ok hU hx hb hK hM (cr_X7_1 hr0) hq dcX7_link_13 (fun z2 H locs hM hq => ?_)
  exact cw_vret hx hb hr hlocks hM hq hQQ dcX7_link_14
theorem dcX7_cut_0 : decode cX7_cut 0 = .ok (.aload_n 0, 1) := dw_at cX7_cut_k0 (p := 0) rfl (by decide +kernel)
theorem dcX7_cut_1 : decode cX7_cut 1 = .ok (.getfield 9, 3) := dw_at cX7_cut_k0 (p := 1) rfl (by decide +kernel)
theorem dcX7_cut_4 : decode cX7_cut 4 = .ok (.iload_n 1, 1) := dw_at cX7_cut_k0 (p := 4) rfl (by decide +kernel)
theorem dcX7_cut_5 : decode cX7_cut 5 = .ok (.iaload, 1) := dw_at cX7_cut_k0 (p := 5) rfl (by decide +kernel)
theorem dcX7_cut_6 : decode cX7_cut 6 = .ok (.iload_n 1, 1) := dw_at cX7_cut_k0 (p := 6) rfl (by decide +kernel)
theorem dcX7_cut_7 : decode cX7_cut 7 = .ok (.if_icmp .ne 16, 3) := dw_at cX7_cut_k0 (p := 7) rfl (by decide +kernel)
theorem dcX7_cut_10 : decode cX7_cut 10 = .ok (.aload_n 0, 1) := dw_at cX7_cut_k0 (p := 10) rfl (by decide +kernel)
theorem dcX7_cut_11 : decode cX7_cut 11 = .ok (.dup, 1) := dw_at cX7_cut_k0 (p := 11) rfl (by decide +kernel)
theorem dcX7_cut_12 : decode cX7_cut 12 = .ok (.getfield 42, 3) := dw_at cX7_cut_k0 (p := 12) rfl (by decide +kernel)
theorem dcX7_cut_15 : decode cX7_cut 15 = .ok (.iconst 1, 1) := dw_at cX7_cut_k0 (p := 15) rfl (by decide +kernel)
theorem dcX7_cut_16 : decode cX7_cut 16 = .ok (.iadd, 1) := dw_at cX7_cut_k0 (p := 16) rfl (by decide +kernel)
theorem dcX7_cut_17 : decode cX7_cut 17 = .ok (.putfield 42, 3) := dw_at cX7_cut_k0 (p := 17) rfl (by decide +kernel)
theorem dcX7_cut_20 : decode cX7_cut 20 = .ok (.goto 19, 3) := dw_at cX7_cut_k0 (p := 20) rfl (by decide +kernel)
theorem dcX7_cut_23 : decode cX7_cut 23 = .ok (.aload_n 0, 1) := dw_at cX7_cut_k0 (p := 23) rfl (by decide +kernel)
theorem dcX7_cut_24 : decode cX7_cut 24 = .ok (.aload_n 0, 1) := dw_at cX7_cut_k1 (p := 0) rfl (by decide +kernel)
theorem dcX7_cut_25 : decode cX7_cut 25 = .ok (.getfield 15, 3) := dw_at cX7_cut_k1 (p := 1) rfl (by decide +kernel)
theorem dcX7_cut_28 : decode cX7_cut 28 = .ok (.iload_n 1, 1) := dw_at cX7_cut_k1 (p := 4) rfl (by decide +kernel)
theorem dcX7_cut_29 : decode cX7_cut 29 = .ok (.iaload, 1) := dw_at cX7_cut_k1 (p := 5) rfl (by decide +kernel)
theorem dcX7_cut_30 : decode cX7_cut 30 = .ok (.aload_n 0, 1) := dw_at cX7_cut_k1 (p := 6) rfl (by decide +kernel)
theorem dcX7_cut_31 : decode cX7_cut 31 = .ok (.getfield 9, 3) := dw_at cX7_cut_k1 (p := 7) rfl (by decide +kernel)
theorem dcX7_cut_34 : decode cX7_cut 34 = .ok (.iload_n 1, 1) := dw_at cX7_cut_k1 (p := 10) rfl (by decide +kernel)
theorem dcX7_cut_35 : decode cX7_cut 35 = .ok (.iaload, 1) := dw_at cX7_cut_k1 (p := 11) rfl (by decide +kernel)
theorem dcX7_cut_36 : decode cX7_cut 36 = .ok (.invokevirtual 54, 3) := dw_at cX7_cut_k1 (p := 12) rfl (by decide +kernel)
theorem dcX7_cut_39 : decode cX7_cut 39 = .ok (.return_, 1) := dw_at cX7_cut_k1 (p := 15) rfl (by decide +kernel)
def cm_X7_cut_0 (vl : Nat → Nat) (K : Nat) (x1 : Int32) (r0 : Nat) (z : ow_MS) : Option ow_MS :=
 crI (cX vl) z (r0 + 1) x1 fun v1 => (if v1 = x1 then rdF z (r0 + 9) fun v5 => wrF z (r0 + 9) (v5 + 1) fun z6 => some z6
 else crI (cX vl) z (r0 + 2) x1 fun v2 => crI (cX vl) z (r0 + 1) x1 fun v3 => cs0 (ce_X7_link vl K r0 v2 v3 z) fun z4 => some z4)
def ce_X7_cut (vl : Nat → Nat) (K : Nat) (r0 : Nat) (x1 : Int32) (z : ow_MS) : Option ow_MS := cm_X7_cut_0 vl K x1 r0 z
abbrev wc_X7_cut : List Cond := .code yX7_cut cX7_cut 2 none :: wC
theorem cdd_X7_cut : yX7_cut.cls = RX7 ∧ yX7_cut.cls ≠ "java/lang/invoke/MethodHandle" ∧ yX7_cut.cls ≠ "java/lang/invoke/VarHandle" ∧ (parseMethodDescriptor yX7_cut.desc).map (fun d => d.parameters.length) = some 1 := by decide +kernel
set_option maxHeartbeats 4000000 in
set_option maxRecDepth 100000 in
theorem kc_X7_cut (l : Launch) (D : va_G) (q : Nat → ClassId) (vl u : Nat → Nat) (hU0 : tw_inj (cX vl) u) (K : Nat) (r0 : Nat) (x1 : Int32) (hr0 : cw_X7 r0) (z z1 : ow_MS) (hq : ce_X7_cut vl K r0 x1 z = some z1) : Met l yX7_cut wc_X7_cut ({ frames := 1, cells := 0, slots := 0, locals := 22 } : Room) (va_Pc [.ref (u r0), .int x1] (cw_pre D q vl u z)) (va_Qv (fun (_ : Unit) => True) (fun _ t => va_P D vwCl (uw (cX vl) q u z1) t.heap) (tw_A (cX vl) u)) 0 0 (tw_A (cX vl) u) := by
  refine Met.ofW (cc := cX7_cut) (maxL := 2) (ret := none) (by decide) rfl ?_
  intro p e s m args below meth c s₁ B hml hv
  obtain ⟨rfl, hP, hK⟩ := hv
  have hx := B.exec
  have hb := B.bytes
  have hr := B.returns
  have hts := atoms_spec (ws := wc_X7_cut) B.pre
  have hT : ∀ w ∈ wC, w.before ([.ref (u r0), .int x1] : List Value).toArray s = true := fun w h => hts w (List.mem_cons_of_mem _ h)
  have hown : s.vm.findClass RX7 = some m.cls := findClass_of_methodNamed B.named
  have hlocks := B.notSynchronized
  have hU : uw_inj (cX vl) u (tw_A (cX vl) u) := ⟨hU0, fun h hh => ⟨h, hh, rfl⟩⟩
  have hM : uw_M D vwCl (cX vl) q (tw_A (cX vl) u) s.heap u z s.heap [] := ⟨hP, va_S.rf⟩
  have hl := lv_entry ([.ref (u r0), .int x1]) (n := 2) (Nat.le_of_ble_eq_true rfl)
  rw [lg_entry_eq]
  generalize (lg_sl ([.ref (u r0), .int x1]) ++ List.replicate (2 - (lg_sl ([.ref (u r0), .int x1])).length) Slot.unset).toArray = ls at hl ⊢
  have hl : lv_has ls 2 [(0, .ref (u r0)), (1, .int x1)] := hl
  refine ow_named (fun QQ hQQ => ?_)
  generalize ([.ref (u r0), .int x1] : List Value).toArray = args at hts hT hQQ ⊢
  have hq : cm_X7_cut_0 vl K x1 r0 z = some z1 := hq
  unfold cm_X7_cut_0 at hq
  suffices key : ∀ (H : Heap) (locs : List Loc), uw_M D vwCl (cX vl) q (tw_A (cX vl) u) s.heap u z H locs → W p l e ({ frames := 1, cells := 0, slots := 0, locals := 22 } : Room) s m args below meth c H locs 0 0 QQ (F0 m 0 ls []) from key s.heap [] hM
  intro H locs hM
  refine lv_aload_n hx hb dcX7_cut_0 rfl (lv_at hl 0 rfl) ?_
  refine vgX7_9 hx hb hT hown hK hM hr0 dcX7_cut_1 ?_
  refine lv_iload_n hx hb dcX7_cut_4 rfl (lv_at hl 1 rfl) ?_
  refine uw_iald cX_ok hx hb hK hM (cr_X7_0 hr0) hq dcX7_cut_5 (fun v1 hq => ?_)
  refine lv_iload_n hx hb dcX7_cut_6 rfl (lv_at hl 1 rfl) ?_
  refine lv_icmp_ne (tgt := 23) hx hb dcX7_cut_7 (by decide) (fun hc => ?_) (fun hc => ?_)
  · have hq := tw_if hq hc
    refine lv_aload_n hx hb dcX7_cut_23 rfl (lv_at hl 0 rfl) ?_
    refine lv_aload_n hx hb dcX7_cut_24 rfl (lv_at hl 0 rfl) ?_
    refine vgX7_15 hx hb hT hown hK hM hr0 dcX7_cut_25 ?_
    refine lv_iload_n hx hb dcX7_cut_28 rfl (lv_at hl 1 rfl) ?_
    refine uw_iald cX_ok hx hb hK hM (cr_X7_1 hr0) hq dcX7_cut_29 (fun v2 hq => ?_)
    refine lv_aload_n hx hb dcX7_cut_30 rfl (lv_at hl 0 rfl) ?_
    refine vgX7_9 hx hb hT hown hK hM hr0 dcX7_cut_31 ?_
    refine lv_iload_n hx hb dcX7_cut_34 rfl (lv_at hl 1 rfl) ?_
    refine uw_iald cX_ok hx hb hK hM (cr_X7_0 hr0) hq dcX7_cut_35 (fun v3 hq => ?_)
    obtain ⟨z4, hcq, hq⟩ := tw_cl0 hq
    refine uw_calv hU hM (va_runV (As := [.int v2, .int v3]) (rest := []) ⟨hx, hb, hml, hown, hts⟩ (kc_X7_link l D q vl u hU.1 K r0 v2 v3 hr0 z z4 hcq) (cwV 2 hts (tw_gV wC_good xq_160 xq_161 xq_162 xq_54 xq_163) rfl rfl rfl cdd_X7_link ⟨(Nat.le_of_ble_eq_true rfl), (Nat.le_of_ble_eq_true rfl)⟩) (cw_preV hK hM (co_X7 hr0) rfl) rfl rfl hl.1 rfl (lv_room (Nat.le_of_ble_eq_true rfl)) dcX7_cut_36 ⟨(Nat.le_of_ble_eq_true rfl), (Nat.le_of_ble_eq_true rfl)⟩) (fun H locs hM => ?_)
    exact cw_vret hx hb hr hlocks hM hq hQQ dcX7_cut_39
  · have hq := tw_it hq hc
    refine lv_aload_n hx hb dcX7_cut_10 rfl (lv_at hl 0 rfl) ?_
    refine lv_dup hx hb dcX7_cut_11 rfl ?_
    refine vgX7_42 hx hb hT hown hK hM hr0 hq dcX7_cut_12 (fun v5 hq => ?_)
    refine lv_iconst (v := 1) hx hb dcX7_cut_15 (by decide) ?_
    refine lv_iadd hx hb dcX7_cut_16 ?_
    refine vpX7_42 hx hb hT hown hK hM hU hr0 hq dcX7_cut_17 (fun z6 H locs hM hq => ?_)
    refine lv_goto (tgt := 39) hx hb dcX7_cut_20 (by decide) ?_
    exact cw_vret hx hb hr hlocks hM hq hQQ dcX7_cut_39
theorem dcX7_rename_0 : decode cX7_rename 0 = .ok (.aload_n 0, 1) := dw_at cX7_rename_k0 (p := 0) rfl (by decide +kernel)
theorem dcX7_rename_1 : decode cX7_rename 1 = .ok (.getfield 9, 3) := dw_at cX7_rename_k0 (p := 1) rfl (by decide +kernel)
theorem dcX7_rename_4 : decode cX7_rename 4 = .ok (.iload_n 1, 1) := dw_at cX7_rename_k0 (p := 4) rfl (by decide +kernel)
theorem dcX7_rename_5 : decode cX7_rename 5 = .ok (.iaload, 1) := dw_at cX7_rename_k0 (p := 5) rfl (by decide +kernel)
theorem dcX7_rename_6 : decode cX7_rename 6 = .ok (.iload_n 1, 1) := dw_at cX7_rename_k0 (p := 6) rfl (by decide +kernel)
theorem dcX7_rename_7 : decode cX7_rename 7 = .ok (.if_icmp .ne 12, 3) := dw_at cX7_rename_k0 (p := 7) rfl (by decide +kernel)
theorem dcX7_rename_10 : decode cX7_rename 10 = .ok (.aload_n 0, 1) := dw_at cX7_rename_k0 (p := 10) rfl (by decide +kernel)
theorem dcX7_rename_11 : decode cX7_rename 11 = .ok (.iload_n 2, 1) := dw_at cX7_rename_k0 (p := 11) rfl (by decide +kernel)
theorem dcX7_rename_12 : decode cX7_rename 12 = .ok (.iload_n 2, 1) := dw_at cX7_rename_k0 (p := 12) rfl (by decide +kernel)
theorem dcX7_rename_13 : decode cX7_rename 13 = .ok (.invokevirtual 54, 3) := dw_at cX7_rename_k0 (p := 13) rfl (by decide +kernel)
theorem dcX7_rename_16 : decode cX7_rename 16 = .ok (.goto 25, 3) := dw_at cX7_rename_k0 (p := 16) rfl (by decide +kernel)
theorem dcX7_rename_19 : decode cX7_rename 19 = .ok (.aload_n 0, 1) := dw_at cX7_rename_k0 (p := 19) rfl (by decide +kernel)
theorem dcX7_rename_20 : decode cX7_rename 20 = .ok (.aload_n 0, 1) := dw_at cX7_rename_k0 (p := 20) rfl (by decide +kernel)
theorem dcX7_rename_21 : decode cX7_rename 21 = .ok (.getfield 15, 3) := dw_at cX7_rename_k0 (p := 21) rfl (by decide +kernel)
theorem dcX7_rename_24 : decode cX7_rename 24 = .ok (.iload_n 1, 1) := dw_at cX7_rename_k1 (p := 0) rfl (by decide +kernel)
theorem dcX7_rename_25 : decode cX7_rename 25 = .ok (.iaload, 1) := dw_at cX7_rename_k1 (p := 1) rfl (by decide +kernel)
theorem dcX7_rename_26 : decode cX7_rename 26 = .ok (.iload_n 2, 1) := dw_at cX7_rename_k1 (p := 2) rfl (by decide +kernel)
theorem dcX7_rename_27 : decode cX7_rename 27 = .ok (.invokevirtual 54, 3) := dw_at cX7_rename_k1 (p := 3) rfl (by decide +kernel)
theorem dcX7_rename_30 : decode cX7_rename 30 = .ok (.aload_n 0, 1) := dw_at cX7_rename_k1 (p := 6) rfl (by decide +kernel)
theorem dcX7_rename_31 : decode cX7_rename 31 = .ok (.iload_n 2, 1) := dw_at cX7_rename_k1 (p := 7) rfl (by decide +kernel)
theorem dcX7_rename_32 : decode cX7_rename 32 = .ok (.aload_n 0, 1) := dw_at cX7_rename_k1 (p := 8) rfl (by decide +kernel)
theorem dcX7_rename_33 : decode cX7_rename 33 = .ok (.getfield 9, 3) := dw_at cX7_rename_k1 (p := 9) rfl (by decide +kernel)
theorem dcX7_rename_36 : decode cX7_rename 36 = .ok (.iload_n 1, 1) := dw_at cX7_rename_k1 (p := 12) rfl (by decide +kernel)
theorem dcX7_rename_37 : decode cX7_rename 37 = .ok (.iaload, 1) := dw_at cX7_rename_k1 (p := 13) rfl (by decide +kernel)
theorem dcX7_rename_38 : decode cX7_rename 38 = .ok (.invokevirtual 54, 3) := dw_at cX7_rename_k1 (p := 14) rfl (by decide +kernel)
theorem dcX7_rename_41 : decode cX7_rename 41 = .ok (.return_, 1) := dw_at cX7_rename_k1 (p := 17) rfl (by decide +kernel)
def cm_X7_rename_0 (vl : Nat → Nat) (K : Nat) (x1 : Int32) (x2 : Int32) (r0 : Nat) (z : ow_MS) : Option ow_MS :=
 crI (cX vl) z (r0 + 1) x1 fun v1 => (if v1 = x1 then cs0 (ce_X7_link vl K r0 x2 x2 z) fun z6 => some z6
 else crI (cX vl) z (r0 + 2) x1 fun v2 => cs0 (ce_X7_link vl K r0 v2 x2 z) fun z3 => crI (cX vl) z3 (r0 + 1) x1 fun v4 => cs0 (ce_X7_link vl K r0 x2 v4 z3) fun z5 => some z5)
def ce_X7_rename (vl : Nat → Nat) (K : Nat) (r0 : Nat) (x1 : Int32) (x2 : Int32) (z : ow_MS) : Option ow_MS := cm_X7_rename_0 vl K x1 x2 r0 z
abbrev wc_X7_rename : List Cond := .code yX7_rename cX7_rename 3 none :: wC
theorem cdd_X7_rename : yX7_rename.cls = RX7 ∧ yX7_rename.cls ≠ "java/lang/invoke/MethodHandle" ∧ yX7_rename.cls ≠ "java/lang/invoke/VarHandle" ∧ (parseMethodDescriptor yX7_rename.desc).map (fun d => d.parameters.length) = some 2 := by decide +kernel
set_option maxHeartbeats 4000000 in
set_option maxRecDepth 100000 in
theorem kc_X7_rename (l : Launch) (D : va_G) (q : Nat → ClassId) (vl u : Nat → Nat) (hU0 : tw_inj (cX vl) u) (K : Nat) (r0 : Nat) (x1 : Int32) (x2 : Int32) (hr0 : cw_X7 r0) (z z1 : ow_MS) (hq : ce_X7_rename vl K r0 x1 x2 z = some z1) : Met l yX7_rename wc_X7_rename ({ frames := 1, cells := 0, slots := 0, locals := 22 } : Room) (va_Pc [.ref (u r0), .int x1, .int x2] (cw_pre D q vl u z)) (va_Qv (fun (_ : Unit) => True) (fun _ t => va_P D vwCl (uw (cX vl) q u z1) t.heap) (tw_A (cX vl) u)) 0 0 (tw_A (cX vl) u) := by
  refine Met.ofW (cc := cX7_rename) (maxL := 3) (ret := none) (by decide) rfl ?_
  intro p e s m args below meth c s₁ B hml hv
  obtain ⟨rfl, hP, hK⟩ := hv
  have hx := B.exec
  have hb := B.bytes
  have hr := B.returns
  have hts := atoms_spec (ws := wc_X7_rename) B.pre
  have hT : ∀ w ∈ wC, w.before ([.ref (u r0), .int x1, .int x2] : List Value).toArray s = true := fun w h => hts w (List.mem_cons_of_mem _ h)
  have hown : s.vm.findClass RX7 = some m.cls := findClass_of_methodNamed B.named
  have hlocks := B.notSynchronized
  have hU : uw_inj (cX vl) u (tw_A (cX vl) u) := ⟨hU0, fun h hh => ⟨h, hh, rfl⟩⟩
  have hM : uw_M D vwCl (cX vl) q (tw_A (cX vl) u) s.heap u z s.heap [] := ⟨hP, va_S.rf⟩
  have hl := lv_entry ([.ref (u r0), .int x1, .int x2]) (n := 3) (Nat.le_of_ble_eq_true rfl)
  rw [lg_entry_eq]
  generalize (lg_sl ([.ref (u r0), .int x1, .int x2]) ++ List.replicate (3 - (lg_sl ([.ref (u r0), .int x1, .int x2])).length) Slot.unset).toArray = ls at hl ⊢
  have hl : lv_has ls 3 [(0, .ref (u r0)), (1, .int x1), (2, .int x2)] := hl
  refine ow_named (fun QQ hQQ => ?_)
  generalize ([.ref (u r0), .int x1, .int x2] : List Value).toArray = args at hts hT hQQ ⊢
  have hq : cm_X7_rename_0 vl K x1 x2 r0 z = some z1 := hq
  unfold cm_X7_rename_0 at hq
  suffices key : ∀ (H : Heap) (locs : List Loc), uw_M D vwCl (cX vl) q (tw_A (cX vl) u) s.heap u z H locs → W p l e ({ frames := 1, cells := 0, slots := 0, locals := 22 } : Room) s m args below meth c H locs 0 0 QQ (F0 m 0 ls []) from key s.heap [] hM
  intro H locs hM
  refine lv_aload_n hx hb dcX7_rename_0 rfl (lv_at hl 0 rfl) ?_
  refine vgX7_9 hx hb hT hown hK hM hr0 dcX7_rename_1 ?_
  refine lv_iload_n hx hb dcX7_rename_4 rfl (lv_at hl 1 rfl) ?_
  refine uw_iald cX_ok hx hb hK hM (cr_X7_0 hr0) hq dcX7_rename_5 (fun v1 hq => ?_)
  refine lv_iload_n hx hb dcX7_rename_6 rfl (lv_at hl 1 rfl) ?_
  refine lv_icmp_ne (tgt := 19) hx hb dcX7_rename_7 (by decide) (fun hc => ?_) (fun hc => ?_)
  · have hq := tw_if hq hc
    refine lv_aload_n hx hb dcX7_rename_19 rfl (lv_at hl 0 rfl) ?_
    refine lv_aload_n hx hb dcX7_rename_20 rfl (lv_at hl 0 rfl) ?_
    refine vgX7_15 hx hb hT hown hK hM hr0 dcX7_rename_21 ?_
    refine lv_iload_n hx hb dcX7_rename_24 rfl (lv_at hl 1 rfl) ?_
    refine uw_iald cX_ok hx hb hK hM (cr_X7_1 hr0) hq dcX7_rename_25 (fun v2 hq => ?_)
    refine lv_iload_n hx hb dcX7_rename_26 rfl (lv_at hl 2 rfl) ?_
    obtain ⟨z3, hcq, hq⟩ := tw_cl0 hq
    refine uw_calv hU hM (va_runV (As := [.int v2, .int x2]) (rest := []) ⟨hx, hb, hml, hown, hts⟩ (kc_X7_link l D q vl u hU.1 K r0 v2 x2 hr0 z z3 hcq) (cwV 2 hts (tw_gV wC_good xq_160 xq_161 xq_162 xq_54 xq_163) rfl rfl rfl cdd_X7_link ⟨(Nat.le_of_ble_eq_true rfl), (Nat.le_of_ble_eq_true rfl)⟩) (cw_preV hK hM (co_X7 hr0) rfl) rfl rfl hl.1 rfl (lv_room (Nat.le_of_ble_eq_true rfl)) dcX7_rename_27 ⟨(Nat.le_of_ble_eq_true rfl), (Nat.le_of_ble_eq_true rfl)⟩) (fun H locs hM => ?_)
    refine lv_aload_n hx hb dcX7_rename_30 rfl (lv_at hl 0 rfl) ?_
    refine lv_iload_n hx hb dcX7_rename_31 rfl (lv_at hl 2 rfl) ?_
    refine lv_aload_n hx hb dcX7_rename_32 rfl (lv_at hl 0 rfl) ?_
    refine vgX7_9 hx hb hT hown hK hM hr0 dcX7_rename_33 ?_
    refine lv_iload_n hx hb dcX7_rename_36 rfl (lv_at hl 1 rfl) ?_
    refine uw_iald cX_ok hx hb hK hM (cr_X7_0 hr0) hq dcX7_rename_37 (fun v4 hq => ?_)
    obtain ⟨z5, hcq, hq⟩ := tw_cl0 hq
    refine uw_calv hU hM (va_runV (As := [.int x2, .int v4]) (rest := []) ⟨hx, hb, hml, hown, hts⟩ (kc_X7_link l D q vl u hU.1 K r0 x2 v4 hr0 z3 z5 hcq) (cwV 2 hts (tw_gV wC_good xq_160 xq_161 xq_162 xq_54 xq_163) rfl rfl rfl cdd_X7_link ⟨(Nat.le_of_ble_eq_true rfl), (Nat.le_of_ble_eq_true rfl)⟩) (cw_preV hK hM (co_X7 hr0) rfl) rfl rfl hl.1 rfl (lv_room (Nat.le_of_ble_eq_true rfl)) dcX7_rename_38 ⟨(Nat.le_of_ble_eq_true rfl), (Nat.le_of_ble_eq_true rfl)⟩) (fun H locs hM => ?_)
    exact cw_vret hx hb hr hlocks hM hq hQQ dcX7_rename_41
  · have hq := tw_it hq hc
    refine lv_aload_n hx hb dcX7_rename_10 rfl (lv_at hl 0 rfl) ?_
    refine lv_iload_n hx hb dcX7_rename_11 rfl (lv_at hl 2 rfl) ?_
    refine lv_iload_n hx hb dcX7_rename_12 rfl (lv_at hl 2 rfl) ?_
    obtain ⟨z6, hcq, hq⟩ := tw_cl0 hq
    refine uw_calv hU hM (va_runV (As := [.int x2, .int x2]) (rest := []) ⟨hx, hb, hml, hown, hts⟩ (kc_X7_link l D q vl u hU.1 K r0 x2 x2 hr0 z z6 hcq) (cwV 2 hts (tw_gV wC_good xq_160 xq_161 xq_162 xq_54 xq_163) rfl rfl rfl cdd_X7_link ⟨(Nat.le_of_ble_eq_true rfl), (Nat.le_of_ble_eq_true rfl)⟩) (cw_preV hK hM (co_X7 hr0) rfl) rfl rfl hl.1 rfl (lv_room (Nat.le_of_ble_eq_true rfl)) dcX7_rename_13 ⟨(Nat.le_of_ble_eq_true rfl), (Nat.le_of_ble_eq_true rfl)⟩) (fun H locs hM => ?_)
    refine lv_goto (tgt := 41) hx hb dcX7_rename_16 (by decide) ?_
    exact cw_vret hx hb hr hlocks hM hq hQQ dcX7_rename_41
theorem dcX7_removeCrossing_0 : decode cX7_removeCrossing 0 = .ok (.aload_n 0, 1) := dw_at cX7_removeCrossing_k0 (p := 0) rfl (by decide +kernel)
theorem dcX7_removeCrossing_1 : decode cX7_removeCrossing 1 = .ok (.iconst 2, 1) := dw_at cX7_removeCrossing_k0 (p := 1) rfl (by decide +kernel)
theorem dcX7_removeCrossing_2 : decode cX7_removeCrossing 2 = .ok (.iload_n 1, 1) := dw_at cX7_removeCrossing_k0 (p := 2) rfl (by decide +kernel)
theorem dcX7_removeCrossing_3 : decode cX7_removeCrossing 3 = .ok (.imul, 1) := dw_at cX7_removeCrossing_k0 (p := 3) rfl (by decide +kernel)
theorem dcX7_removeCrossing_4 : decode cX7_removeCrossing 4 = .ok (.invokevirtual 64, 3) := dw_at cX7_removeCrossing_k0 (p := 4) rfl (by decide +kernel)
theorem dcX7_removeCrossing_7 : decode cX7_removeCrossing 7 = .ok (.aload_n 0, 1) := dw_at cX7_removeCrossing_k0 (p := 7) rfl (by decide +kernel)
theorem dcX7_removeCrossing_8 : decode cX7_removeCrossing 8 = .ok (.iconst 2, 1) := dw_at cX7_removeCrossing_k0 (p := 8) rfl (by decide +kernel)
theorem dcX7_removeCrossing_9 : decode cX7_removeCrossing 9 = .ok (.iload_n 1, 1) := dw_at cX7_removeCrossing_k0 (p := 9) rfl (by decide +kernel)
theorem dcX7_removeCrossing_10 : decode cX7_removeCrossing 10 = .ok (.imul, 1) := dw_at cX7_removeCrossing_k0 (p := 10) rfl (by decide +kernel)
theorem dcX7_removeCrossing_11 : decode cX7_removeCrossing 11 = .ok (.iconst 1, 1) := dw_at cX7_removeCrossing_k0 (p := 11) rfl (by decide +kernel)
theorem dcX7_removeCrossing_12 : decode cX7_removeCrossing 12 = .ok (.iadd, 1) := dw_at cX7_removeCrossing_k0 (p := 12) rfl (by decide +kernel)
theorem dcX7_removeCrossing_13 : decode cX7_removeCrossing 13 = .ok (.invokevirtual 64, 3) := dw_at cX7_removeCrossing_k0 (p := 13) rfl (by decide +kernel)
theorem dcX7_removeCrossing_16 : decode cX7_removeCrossing 16 = .ok (.aload_n 0, 1) := dw_at cX7_removeCrossing_k0 (p := 16) rfl (by decide +kernel)
theorem dcX7_removeCrossing_17 : decode cX7_removeCrossing 17 = .ok (.dup, 1) := dw_at cX7_removeCrossing_k0 (p := 17) rfl (by decide +kernel)
theorem dcX7_removeCrossing_18 : decode cX7_removeCrossing 18 = .ok (.getfield 39, 3) := dw_at cX7_removeCrossing_k0 (p := 18) rfl (by decide +kernel)
theorem dcX7_removeCrossing_21 : decode cX7_removeCrossing 21 = .ok (.iconst 1, 1) := dw_at cX7_removeCrossing_k0 (p := 21) rfl (by decide +kernel)
theorem dcX7_removeCrossing_22 : decode cX7_removeCrossing 22 = .ok (.isub, 1) := dw_at cX7_removeCrossing_k0 (p := 22) rfl (by decide +kernel)
theorem dcX7_removeCrossing_23 : decode cX7_removeCrossing 23 = .ok (.putfield 39, 3) := dw_at cX7_removeCrossing_k0 (p := 23) rfl (by decide +kernel)
theorem dcX7_removeCrossing_26 : decode cX7_removeCrossing 26 = .ok (.iload_n 1, 1) := dw_at cX7_removeCrossing_k1 (p := 0) rfl (by decide +kernel)
theorem dcX7_removeCrossing_27 : decode cX7_removeCrossing 27 = .ok (.aload_n 0, 1) := dw_at cX7_removeCrossing_k1 (p := 1) rfl (by decide +kernel)
theorem dcX7_removeCrossing_28 : decode cX7_removeCrossing 28 = .ok (.getfield 39, 3) := dw_at cX7_removeCrossing_k1 (p := 2) rfl (by decide +kernel)
theorem dcX7_removeCrossing_31 : decode cX7_removeCrossing 31 = .ok (.if_icmp .eq 48, 3) := dw_at cX7_removeCrossing_k1 (p := 5) rfl (by decide +kernel)
theorem dcX7_removeCrossing_34 : decode cX7_removeCrossing 34 = .ok (.aload_n 0, 1) := dw_at cX7_removeCrossing_k1 (p := 8) rfl (by decide +kernel)
theorem dcX7_removeCrossing_35 : decode cX7_removeCrossing 35 = .ok (.iconst 2, 1) := dw_at cX7_removeCrossing_k1 (p := 9) rfl (by decide +kernel)
theorem dcX7_removeCrossing_36 : decode cX7_removeCrossing 36 = .ok (.aload_n 0, 1) := dw_at cX7_removeCrossing_k1 (p := 10) rfl (by decide +kernel)
theorem dcX7_removeCrossing_37 : decode cX7_removeCrossing 37 = .ok (.getfield 39, 3) := dw_at cX7_removeCrossing_k1 (p := 11) rfl (by decide +kernel)
theorem dcX7_removeCrossing_40 : decode cX7_removeCrossing 40 = .ok (.imul, 1) := dw_at cX7_removeCrossing_k1 (p := 14) rfl (by decide +kernel)
theorem dcX7_removeCrossing_41 : decode cX7_removeCrossing 41 = .ok (.iconst 2, 1) := dw_at cX7_removeCrossing_k1 (p := 15) rfl (by decide +kernel)
theorem dcX7_removeCrossing_42 : decode cX7_removeCrossing 42 = .ok (.iload_n 1, 1) := dw_at cX7_removeCrossing_k1 (p := 16) rfl (by decide +kernel)
theorem dcX7_removeCrossing_43 : decode cX7_removeCrossing 43 = .ok (.imul, 1) := dw_at cX7_removeCrossing_k1 (p := 17) rfl (by decide +kernel)
theorem dcX7_removeCrossing_44 : decode cX7_removeCrossing 44 = .ok (.invokevirtual 68, 3) := dw_at cX7_removeCrossing_k1 (p := 18) rfl (by decide +kernel)
theorem dcX7_removeCrossing_47 : decode cX7_removeCrossing 47 = .ok (.aload_n 0, 1) := dw_at cX7_removeCrossing_k1 (p := 21) rfl (by decide +kernel)
theorem dcX7_removeCrossing_48 : decode cX7_removeCrossing 48 = .ok (.iconst 2, 1) := dw_at cX7_removeCrossing_k1 (p := 22) rfl (by decide +kernel)
theorem dcX7_removeCrossing_49 : decode cX7_removeCrossing 49 = .ok (.aload_n 0, 1) := dw_at cX7_removeCrossing_k1 (p := 23) rfl (by decide +kernel)
theorem dcX7_removeCrossing_50 : decode cX7_removeCrossing 50 = .ok (.getfield 39, 3) := dw_at cX7_removeCrossing_k2 (p := 0) rfl (by decide +kernel)
theorem dcX7_removeCrossing_53 : decode cX7_removeCrossing 53 = .ok (.imul, 1) := dw_at cX7_removeCrossing_k2 (p := 3) rfl (by decide +kernel)
theorem dcX7_removeCrossing_54 : decode cX7_removeCrossing 54 = .ok (.iconst 1, 1) := dw_at cX7_removeCrossing_k2 (p := 4) rfl (by decide +kernel)
theorem dcX7_removeCrossing_55 : decode cX7_removeCrossing 55 = .ok (.iadd, 1) := dw_at cX7_removeCrossing_k2 (p := 5) rfl (by decide +kernel)
theorem dcX7_removeCrossing_56 : decode cX7_removeCrossing 56 = .ok (.iconst 2, 1) := dw_at cX7_removeCrossing_k2 (p := 6) rfl (by decide +kernel)
theorem dcX7_removeCrossing_57 : decode cX7_removeCrossing 57 = .ok (.iload_n 1, 1) := dw_at cX7_removeCrossing_k2 (p := 7) rfl (by decide +kernel)
theorem dcX7_removeCrossing_58 : decode cX7_removeCrossing 58 = .ok (.imul, 1) := dw_at cX7_removeCrossing_k2 (p := 8) rfl (by decide +kernel)
theorem dcX7_removeCrossing_59 : decode cX7_removeCrossing 59 = .ok (.iconst 1, 1) := dw_at cX7_removeCrossing_k2 (p := 9) rfl (by decide +kernel)
theorem dcX7_removeCrossing_60 : decode cX7_removeCrossing 60 = .ok (.iadd, 1) := dw_at cX7_removeCrossing_k2 (p := 10) rfl (by decide +kernel)
theorem dcX7_removeCrossing_61 : decode cX7_removeCrossing 61 = .ok (.invokevirtual 68, 3) := dw_at cX7_removeCrossing_k2 (p := 11) rfl (by decide +kernel)
theorem dcX7_removeCrossing_64 : decode cX7_removeCrossing 64 = .ok (.aload_n 0, 1) := dw_at cX7_removeCrossing_k2 (p := 14) rfl (by decide +kernel)
theorem dcX7_removeCrossing_65 : decode cX7_removeCrossing 65 = .ok (.getfield 18, 3) := dw_at cX7_removeCrossing_k2 (p := 15) rfl (by decide +kernel)
theorem dcX7_removeCrossing_68 : decode cX7_removeCrossing 68 = .ok (.iload_n 1, 1) := dw_at cX7_removeCrossing_k2 (p := 18) rfl (by decide +kernel)
theorem dcX7_removeCrossing_69 : decode cX7_removeCrossing 69 = .ok (.aload_n 0, 1) := dw_at cX7_removeCrossing_k2 (p := 19) rfl (by decide +kernel)
theorem dcX7_removeCrossing_70 : decode cX7_removeCrossing 70 = .ok (.getfield 18, 3) := dw_at cX7_removeCrossing_k2 (p := 20) rfl (by decide +kernel)
theorem dcX7_removeCrossing_73 : decode cX7_removeCrossing 73 = .ok (.aload_n 0, 1) := dw_at cX7_removeCrossing_k2 (p := 23) rfl (by decide +kernel)
theorem dcX7_removeCrossing_74 : decode cX7_removeCrossing 74 = .ok (.getfield 39, 3) := dw_at cX7_removeCrossing_k2 (p := 24) rfl (by decide +kernel)
theorem dcX7_removeCrossing_77 : decode cX7_removeCrossing 77 = .ok (.iaload, 1) := dw_at cX7_removeCrossing_k2 (p := 27) rfl (by decide +kernel)
theorem dcX7_removeCrossing_78 : decode cX7_removeCrossing 78 = .ok (.iastore, 1) := dw_at cX7_removeCrossing_k2 (p := 28) rfl (by decide +kernel)
theorem dcX7_removeCrossing_79 : decode cX7_removeCrossing 79 = .ok (.return_, 1) := dw_at cX7_removeCrossing_k2 (p := 29) rfl (by decide +kernel)
def cm_X7_removeCrossing_0 (vl : Nat → Nat) (K : Nat) (x1 : Int32) (r0 : Nat) (z : ow_MS) : Option ow_MS :=
 cs0 (ce_X7_cut vl K r0 (2 * x1) z) fun z1 => cs0 (ce_X7_cut vl K r0 ((2 * x1) + 1) z1) fun z2 => rdF z2 (r0 + 8) fun v3 => wrF z2 (r0 + 8) (v3 - 1) fun z4 => rdF z4 (r0 + 8) fun v5 => (if x1 = v5 then some z4
 else rdF z4 (r0 + 8) fun v6 => cs0 (ce_X7_rename vl K r0 (2 * v6) (2 * x1) z4) fun z7 => rdF z7 (r0 + 8) fun v8 => cs0 (ce_X7_rename vl K r0 ((2 * v8) + 1) ((2 * x1) + 1) z7) fun z9 => rdF z9 (r0 + 8) fun v10 => crI (cX vl) z9 (r0 + 3) v10 fun v11 => ctI (cX vl) z9 (r0 + 3) x1 v11 fun z12 => some z12)
def ce_X7_removeCrossing (vl : Nat → Nat) (K : Nat) (r0 : Nat) (x1 : Int32) (z : ow_MS) : Option ow_MS := cm_X7_removeCrossing_0 vl K x1 r0 z
abbrev wc_X7_removeCrossing : List Cond := .code yX7_removeCrossing cX7_removeCrossing 2 none :: wC
theorem cdd_X7_removeCrossing : yX7_removeCrossing.cls = RX7 ∧ yX7_removeCrossing.cls ≠ "java/lang/invoke/MethodHandle" ∧ yX7_removeCrossing.cls ≠ "java/lang/invoke/VarHandle" ∧ (parseMethodDescriptor yX7_removeCrossing.desc).map (fun d => d.parameters.length) = some 1 := by decide +kernel
set_option maxHeartbeats 4000000 in
set_option maxRecDepth 100000 in
theorem kc_X7_removeCrossing (l : Launch) (D : va_G) (q : Nat → ClassId) (vl u : Nat → Nat) (hU0 : tw_inj (cX vl) u) (K : Nat) (r0 : Nat) (x1 : Int32) (hr0 : cw_X7 r0) (z z1 : ow_MS) (hq : ce_X7_removeCrossing vl K r0 x1 z = some z1) : Met l yX7_removeCrossing wc_X7_removeCrossing ({ frames := 2, cells := 0, slots := 0, locals := 44 } : Room) (va_Pc [.ref (u r0), .int x1] (cw_pre D q vl u z)) (va_Qv (fun (_ : Unit) => True) (fun _ t => va_P D vwCl (uw (cX vl) q u z1) t.heap) (tw_A (cX vl) u)) 0 0 (tw_A (cX vl) u) := by
  refine Met.ofW (cc := cX7_removeCrossing) (maxL := 2) (ret := none) (by decide) rfl ?_
  intro p e s m args below meth c s₁ B hml hv
  obtain ⟨rfl, hP, hK⟩ := hv
  have hx := B.exec
  have hb := B.bytes
  have hr := B.returns
  have hts := atoms_spec (ws := wc_X7_removeCrossing) B.pre
  have hT : ∀ w ∈ wC, w.before ([.ref (u r0), .int x1] : List Value).toArray s = true := fun w h => hts w (List.mem_cons_of_mem _ h)
  have hown : s.vm.findClass RX7 = some m.cls := findClass_of_methodNamed B.named
  have hlocks := B.notSynchronized
  have hU : uw_inj (cX vl) u (tw_A (cX vl) u) := ⟨hU0, fun h hh => ⟨h, hh, rfl⟩⟩
  have hM : uw_M D vwCl (cX vl) q (tw_A (cX vl) u) s.heap u z s.heap [] := ⟨hP, va_S.rf⟩
  have hl := lv_entry ([.ref (u r0), .int x1]) (n := 2) (Nat.le_of_ble_eq_true rfl)
  rw [lg_entry_eq]
  generalize (lg_sl ([.ref (u r0), .int x1]) ++ List.replicate (2 - (lg_sl ([.ref (u r0), .int x1])).length) Slot.unset).toArray = ls at hl ⊢
  have hl : lv_has ls 2 [(0, .ref (u r0)), (1, .int x1)] := hl
  refine ow_named (fun QQ hQQ => ?_)
  generalize ([.ref (u r0), .int x1] : List Value).toArray = args at hts hT hQQ ⊢
  have hq : cm_X7_removeCrossing_0 vl K x1 r0 z = some z1 := hq
  unfold cm_X7_removeCrossing_0 at hq
  suffices key : ∀ (H : Heap) (locs : List Loc), uw_M D vwCl (cX vl) q (tw_A (cX vl) u) s.heap u z H locs → W p l e ({ frames := 2, cells := 0, slots := 0, locals := 44 } : Room) s m args below meth c H locs 0 0 QQ (F0 m 0 ls []) from key s.heap [] hM
  intro H locs hM
  refine lv_aload_n hx hb dcX7_removeCrossing_0 rfl (lv_at hl 0 rfl) ?_
  refine lv_iconst (v := 2) hx hb dcX7_removeCrossing_1 (by decide) ?_
  refine lv_iload_n hx hb dcX7_removeCrossing_2 rfl (lv_at hl 1 rfl) ?_
  refine lv_imul hx hb dcX7_removeCrossing_3 ?_
  obtain ⟨z1, hcq, hq⟩ := tw_cl0 hq
  refine uw_calv hU hM (va_runV (As := [.int (2 * x1)]) (rest := []) ⟨hx, hb, hml, hown, hts⟩ (kc_X7_cut l D q vl u hU.1 K r0 (2 * x1) hr0 z z1 hcq) (cwV 1 hts (tw_gV wC_good xq_156 xq_157 xq_158 xq_54 xq_159) rfl rfl rfl cdd_X7_cut ⟨(Nat.le_of_ble_eq_true rfl), (Nat.le_of_ble_eq_true rfl)⟩) (cw_preV hK hM (co_X7 hr0) rfl) rfl rfl hl.1 rfl (lv_room (Nat.le_of_ble_eq_true rfl)) dcX7_removeCrossing_4 ⟨(Nat.le_of_ble_eq_true rfl), (Nat.le_of_ble_eq_true rfl)⟩) (fun H locs hM => ?_)
  refine lv_aload_n hx hb dcX7_removeCrossing_7 rfl (lv_at hl 0 rfl) ?_
  refine lv_iconst (v := 2) hx hb dcX7_removeCrossing_8 (by decide) ?_
  refine lv_iload_n hx hb dcX7_removeCrossing_9 rfl (lv_at hl 1 rfl) ?_
  refine lv_imul hx hb dcX7_removeCrossing_10 ?_
  refine lv_iconst (v := 1) hx hb dcX7_removeCrossing_11 (by decide) ?_
  refine lv_iadd hx hb dcX7_removeCrossing_12 ?_
  obtain ⟨z2, hcq, hq⟩ := tw_cl0 hq
  refine uw_calv hU hM (va_runV (As := [.int ((2 * x1) + 1)]) (rest := []) ⟨hx, hb, hml, hown, hts⟩ (kc_X7_cut l D q vl u hU.1 K r0 ((2 * x1) + 1) hr0 z1 z2 hcq) (cwV 1 hts (tw_gV wC_good xq_156 xq_157 xq_158 xq_54 xq_159) rfl rfl rfl cdd_X7_cut ⟨(Nat.le_of_ble_eq_true rfl), (Nat.le_of_ble_eq_true rfl)⟩) (cw_preV hK hM (co_X7 hr0) rfl) rfl rfl hl.1 rfl (lv_room (Nat.le_of_ble_eq_true rfl)) dcX7_removeCrossing_13 ⟨(Nat.le_of_ble_eq_true rfl), (Nat.le_of_ble_eq_true rfl)⟩) (fun H locs hM => ?_)
  refine lv_aload_n hx hb dcX7_removeCrossing_16 rfl (lv_at hl 0 rfl) ?_
  refine lv_dup hx hb dcX7_removeCrossing_17 rfl ?_
  refine vgX7_39 hx hb hT hown hK hM hr0 hq dcX7_removeCrossing_18 (fun v3 hq => ?_)
  refine lv_iconst (v := 1) hx hb dcX7_removeCrossing_21 (by decide) ?_
  refine lv_isub hx hb dcX7_removeCrossing_22 ?_
  refine vpX7_39 hx hb hT hown hK hM hU hr0 hq dcX7_removeCrossing_23 (fun z4 H locs hM hq => ?_)
  refine lv_iload_n hx hb dcX7_removeCrossing_26 rfl (lv_at hl 1 rfl) ?_
  refine lv_aload_n hx hb dcX7_removeCrossing_27 rfl (lv_at hl 0 rfl) ?_
  refine vgX7_39 hx hb hT hown hK hM hr0 hq dcX7_removeCrossing_28 (fun v5 hq => ?_)
  refine lv_icmp_eq (tgt := 79) hx hb dcX7_removeCrossing_31 (by decide) (fun hc => ?_) (fun hc => ?_)
  · have hq := tw_it hq hc
    exact cw_vret hx hb hr hlocks hM hq hQQ dcX7_removeCrossing_79
  · have hq := tw_if hq hc
    refine lv_aload_n hx hb dcX7_removeCrossing_34 rfl (lv_at hl 0 rfl) ?_
    refine lv_iconst (v := 2) hx hb dcX7_removeCrossing_35 (by decide) ?_
    refine lv_aload_n hx hb dcX7_removeCrossing_36 rfl (lv_at hl 0 rfl) ?_
    refine vgX7_39 hx hb hT hown hK hM hr0 hq dcX7_removeCrossing_37 (fun v6 hq => ?_)
    refine lv_imul hx hb dcX7_removeCrossing_40 ?_
    refine lv_iconst (v := 2) hx hb dcX7_removeCrossing_41 (by decide) ?_
    refine lv_iload_n hx hb dcX7_removeCrossing_42 rfl (lv_at hl 1 rfl) ?_
    refine lv_imul hx hb dcX7_removeCrossing_43 ?_
    obtain ⟨z7, hcq, hq⟩ := tw_cl0 hq
    refine uw_calv hU hM (va_runV (As := [.int (2 * v6), .int (2 * x1)]) (rest := []) ⟨hx, hb, hml, hown, hts⟩ (kc_X7_rename l D q vl u hU.1 K r0 (2 * v6) (2 * x1) hr0 z4 z7 hcq) (cwV 2 hts (tw_gV wC_good xq_164 xq_165 xq_166 xq_54 xq_167) rfl rfl rfl cdd_X7_rename ⟨(Nat.le_of_ble_eq_true rfl), (Nat.le_of_ble_eq_true rfl)⟩) (cw_preV hK hM (co_X7 hr0) rfl) rfl rfl hl.1 rfl (lv_room (Nat.le_of_ble_eq_true rfl)) dcX7_removeCrossing_44 ⟨(Nat.le_of_ble_eq_true rfl), (Nat.le_of_ble_eq_true rfl)⟩) (fun H locs hM => ?_)
    refine lv_aload_n hx hb dcX7_removeCrossing_47 rfl (lv_at hl 0 rfl) ?_
    refine lv_iconst (v := 2) hx hb dcX7_removeCrossing_48 (by decide) ?_
    refine lv_aload_n hx hb dcX7_removeCrossing_49 rfl (lv_at hl 0 rfl) ?_
    refine vgX7_39 hx hb hT hown hK hM hr0 hq dcX7_removeCrossing_50 (fun v8 hq => ?_)
    refine lv_imul hx hb dcX7_removeCrossing_53 ?_
    refine lv_iconst (v := 1) hx hb dcX7_removeCrossing_54 (by decide) ?_
    refine lv_iadd hx hb dcX7_removeCrossing_55 ?_
    refine lv_iconst (v := 2) hx hb dcX7_removeCrossing_56 (by decide) ?_
    refine lv_iload_n hx hb dcX7_removeCrossing_57 rfl (lv_at hl 1 rfl) ?_
    refine lv_imul hx hb dcX7_removeCrossing_58 ?_
    refine lv_iconst (v := 1) hx hb dcX7_removeCrossing_59 (by decide) ?_
    refine lv_iadd hx hb dcX7_removeCrossing_60 ?_
    obtain ⟨z9, hcq, hq⟩ := tw_cl0 hq
    refine uw_calv hU hM (va_runV (As := [.int ((2 * v8) + 1), .int ((2 * x1) + 1)]) (rest := []) ⟨hx, hb, hml, hown, hts⟩ (kc_X7_rename l D q vl u hU.1 K r0 ((2 * v8) + 1) ((2 * x1) + 1) hr0 z7 z9 hcq) (cwV 2 hts (tw_gV wC_good xq_164 xq_165 xq_166 xq_54 xq_167) rfl rfl rfl cdd_X7_rename ⟨(Nat.le_of_ble_eq_true rfl), (Nat.le_of_ble_eq_true rfl)⟩) (cw_preV hK hM (co_X7 hr0) rfl) rfl rfl hl.1 rfl (lv_room (Nat.le_of_ble_eq_true rfl)) dcX7_removeCrossing_61 ⟨(Nat.le_of_ble_eq_true rfl), (Nat.le_of_ble_eq_true rfl)⟩) (fun H locs hM => ?_)
    refine lv_aload_n hx hb dcX7_removeCrossing_64 rfl (lv_at hl 0 rfl) ?_
    refine vgX7_18 hx hb hT hown hK hM hr0 dcX7_removeCrossing_65 ?_
    refine lv_iload_n hx hb dcX7_removeCrossing_68 rfl (lv_at hl 1 rfl) ?_
    refine lv_aload_n hx hb dcX7_removeCrossing_69 rfl (lv_at hl 0 rfl) ?_
    refine vgX7_18 hx hb hT hown hK hM hr0 dcX7_removeCrossing_70 ?_
    refine lv_aload_n hx hb dcX7_removeCrossing_73 rfl (lv_at hl 0 rfl) ?_
    refine vgX7_39 hx hb hT hown hK hM hr0 hq dcX7_removeCrossing_74 (fun v10 hq => ?_)
    refine uw_iald cX_ok hx hb hK hM (cr_X7_2 hr0) hq dcX7_removeCrossing_77 (fun v11 hq => ?_)
    refine uw_iast cX_ok hU hx hb hK hM (cr_X7_2 hr0) hq dcX7_removeCrossing_78 (fun z12 H locs hM hq => ?_)
    exact cw_vret hx hb hr hlocks hM hq hQQ dcX7_removeCrossing_79
theorem dcX1_tidyOnce_0 : decode cX1_tidyOnce 0 = .ok (.iconst 0, 1) := dw_at cX1_tidyOnce_k0 (p := 0) rfl (by decide +kernel)
theorem dcX1_tidyOnce_1 : decode cX1_tidyOnce 1 = .ok (.istore_n 1, 1) := dw_at cX1_tidyOnce_k0 (p := 1) rfl (by decide +kernel)
theorem dcX1_tidyOnce_2 : decode cX1_tidyOnce 2 = .ok (.iload_n 1, 1) := dw_at cX1_tidyOnce_k0 (p := 2) rfl (by decide +kernel)
theorem dcX1_tidyOnce_3 : decode cX1_tidyOnce 3 = .ok (.aload_n 0, 1) := dw_at cX1_tidyOnce_k0 (p := 3) rfl (by decide +kernel)
theorem dcX1_tidyOnce_4 : decode cX1_tidyOnce 4 = .ok (.getfield 12, 3) := dw_at cX1_tidyOnce_k0 (p := 4) rfl (by decide +kernel)
theorem dcX1_tidyOnce_7 : decode cX1_tidyOnce 7 = .ok (.getfield 90, 3) := dw_at cX1_tidyOnce_k0 (p := 7) rfl (by decide +kernel)
theorem dcX1_tidyOnce_10 : decode cX1_tidyOnce 10 = .ok (.if_icmp .ge 73, 3) := dw_at cX1_tidyOnce_k0 (p := 10) rfl (by decide +kernel)
theorem dcX1_tidyOnce_13 : decode cX1_tidyOnce 13 = .ok (.aload_n 0, 1) := dw_at cX1_tidyOnce_k0 (p := 13) rfl (by decide +kernel)
theorem dcX1_tidyOnce_14 : decode cX1_tidyOnce 14 = .ok (.getfield 12, 3) := dw_at cX1_tidyOnce_k0 (p := 14) rfl (by decide +kernel)
theorem dcX1_tidyOnce_17 : decode cX1_tidyOnce 17 = .ok (.iload_n 1, 1) := dw_at cX1_tidyOnce_k0 (p := 17) rfl (by decide +kernel)
theorem dcX1_tidyOnce_18 : decode cX1_tidyOnce 18 = .ok (.invokestatic 125, 3) := dw_at cX1_tidyOnce_k0 (p := 18) rfl (by decide +kernel)
theorem dcX1_tidyOnce_21 : decode cX1_tidyOnce 21 = .ok (.ifCond .eq 13, 3) := dw_at cX1_tidyOnce_k0 (p := 21) rfl (by decide +kernel)
theorem dcX1_tidyOnce_24 : decode cX1_tidyOnce 24 = .ok (.aload_n 0, 1) := dw_at cX1_tidyOnce_k1 (p := 0) rfl (by decide +kernel)
theorem dcX1_tidyOnce_25 : decode cX1_tidyOnce 25 = .ok (.getfield 12, 3) := dw_at cX1_tidyOnce_k1 (p := 1) rfl (by decide +kernel)
theorem dcX1_tidyOnce_28 : decode cX1_tidyOnce 28 = .ok (.iload_n 1, 1) := dw_at cX1_tidyOnce_k1 (p := 4) rfl (by decide +kernel)
theorem dcX1_tidyOnce_29 : decode cX1_tidyOnce 29 = .ok (.invokevirtual 131, 3) := dw_at cX1_tidyOnce_k1 (p := 5) rfl (by decide +kernel)
theorem dcX1_tidyOnce_32 : decode cX1_tidyOnce 32 = .ok (.iconst 1, 1) := dw_at cX1_tidyOnce_k1 (p := 8) rfl (by decide +kernel)
theorem dcX1_tidyOnce_33 : decode cX1_tidyOnce 33 = .ok (.ireturn, 1) := dw_at cX1_tidyOnce_k1 (p := 9) rfl (by decide +kernel)
theorem dcX1_tidyOnce_34 : decode cX1_tidyOnce 34 = .ok (.iconst 0, 1) := dw_at cX1_tidyOnce_k1 (p := 10) rfl (by decide +kernel)
theorem dcX1_tidyOnce_35 : decode cX1_tidyOnce 35 = .ok (.istore_n 2, 1) := dw_at cX1_tidyOnce_k1 (p := 11) rfl (by decide +kernel)
theorem dcX1_tidyOnce_36 : decode cX1_tidyOnce 36 = .ok (.iload_n 2, 1) := dw_at cX1_tidyOnce_k1 (p := 12) rfl (by decide +kernel)
theorem dcX1_tidyOnce_37 : decode cX1_tidyOnce 37 = .ok (.iload_n 1, 1) := dw_at cX1_tidyOnce_k1 (p := 13) rfl (by decide +kernel)
theorem dcX1_tidyOnce_38 : decode cX1_tidyOnce 38 = .ok (.if_icmp .ge 39, 3) := dw_at cX1_tidyOnce_k1 (p := 14) rfl (by decide +kernel)
theorem dcX1_tidyOnce_41 : decode cX1_tidyOnce 41 = .ok (.aload_n 0, 1) := dw_at cX1_tidyOnce_k1 (p := 17) rfl (by decide +kernel)
theorem dcX1_tidyOnce_42 : decode cX1_tidyOnce 42 = .ok (.getfield 12, 3) := dw_at cX1_tidyOnce_k1 (p := 18) rfl (by decide +kernel)
theorem dcX1_tidyOnce_45 : decode cX1_tidyOnce 45 = .ok (.iload_n 1, 1) := dw_at cX1_tidyOnce_k1 (p := 21) rfl (by decide +kernel)
theorem dcX1_tidyOnce_46 : decode cX1_tidyOnce 46 = .ok (.iload_n 2, 1) := dw_at cX1_tidyOnce_k1 (p := 22) rfl (by decide +kernel)
theorem dcX1_tidyOnce_47 : decode cX1_tidyOnce 47 = .ok (.invokestatic 134, 3) := dw_at cX1_tidyOnce_k1 (p := 23) rfl (by decide +kernel)
theorem dcX1_tidyOnce_50 : decode cX1_tidyOnce 50 = .ok (.ifCond .eq 21, 3) := dw_at cX1_tidyOnce_k2 (p := 0) rfl (by decide +kernel)
theorem dcX1_tidyOnce_53 : decode cX1_tidyOnce 53 = .ok (.aload_n 0, 1) := dw_at cX1_tidyOnce_k2 (p := 3) rfl (by decide +kernel)
theorem dcX1_tidyOnce_54 : decode cX1_tidyOnce 54 = .ok (.getfield 12, 3) := dw_at cX1_tidyOnce_k2 (p := 4) rfl (by decide +kernel)
theorem dcX1_tidyOnce_57 : decode cX1_tidyOnce 57 = .ok (.iload_n 1, 1) := dw_at cX1_tidyOnce_k2 (p := 7) rfl (by decide +kernel)
theorem dcX1_tidyOnce_58 : decode cX1_tidyOnce 58 = .ok (.invokevirtual 131, 3) := dw_at cX1_tidyOnce_k2 (p := 8) rfl (by decide +kernel)
theorem dcX1_tidyOnce_61 : decode cX1_tidyOnce 61 = .ok (.aload_n 0, 1) := dw_at cX1_tidyOnce_k2 (p := 11) rfl (by decide +kernel)
theorem dcX1_tidyOnce_62 : decode cX1_tidyOnce 62 = .ok (.getfield 12, 3) := dw_at cX1_tidyOnce_k2 (p := 12) rfl (by decide +kernel)
theorem dcX1_tidyOnce_65 : decode cX1_tidyOnce 65 = .ok (.iload_n 2, 1) := dw_at cX1_tidyOnce_k2 (p := 15) rfl (by decide +kernel)
theorem dcX1_tidyOnce_66 : decode cX1_tidyOnce 66 = .ok (.invokevirtual 131, 3) := dw_at cX1_tidyOnce_k2 (p := 16) rfl (by decide +kernel)
theorem dcX1_tidyOnce_69 : decode cX1_tidyOnce 69 = .ok (.iconst 1, 1) := dw_at cX1_tidyOnce_k2 (p := 19) rfl (by decide +kernel)
theorem dcX1_tidyOnce_70 : decode cX1_tidyOnce 70 = .ok (.ireturn, 1) := dw_at cX1_tidyOnce_k2 (p := 20) rfl (by decide +kernel)
theorem dcX1_tidyOnce_71 : decode cX1_tidyOnce 71 = .ok (.iinc 2 1, 3) := dw_at cX1_tidyOnce_k2 (p := 21) rfl (by decide +kernel)
theorem dcX1_tidyOnce_74 : decode cX1_tidyOnce 74 = .ok (.goto (-38), 3) := dw_at cX1_tidyOnce_k3 (p := 0) rfl (by decide +kernel)
theorem dcX1_tidyOnce_77 : decode cX1_tidyOnce 77 = .ok (.iinc 1 1, 3) := dw_at cX1_tidyOnce_k3 (p := 3) rfl (by decide +kernel)
theorem dcX1_tidyOnce_80 : decode cX1_tidyOnce 80 = .ok (.goto (-78), 3) := dw_at cX1_tidyOnce_k3 (p := 6) rfl (by decide +kernel)
theorem dcX1_tidyOnce_83 : decode cX1_tidyOnce 83 = .ok (.iconst 0, 1) := dw_at cX1_tidyOnce_k3 (p := 9) rfl (by decide +kernel)
theorem dcX1_tidyOnce_84 : decode cX1_tidyOnce 84 = .ok (.ireturn, 1) := dw_at cX1_tidyOnce_k3 (p := 10) rfl (by decide +kernel)
def cm_X1_tidyOnce_0 (vl : Nat → Nat) (K : Nat) (go : Nat → Int32 → Int32 → Nat → ow_MS → Option (Int32 × ow_MS)) (x1 : Int32) (x2 : Int32) (r0 : Nat) (z : ow_MS) : Option (Int32 × ow_MS) :=
 go 1 0 0 r0 z
def cm_X1_tidyOnce_1 (vl : Nat → Nat) (K : Nat) (go : Nat → Int32 → Int32 → Nat → ow_MS → Option (Int32 × ow_MS)) (x1 : Int32) (x2 : Int32) (r0 : Nat) (z : ow_MS) : Option (Int32 × ow_MS) :=
 rdF z ((r0 + 1000) + 8) fun v1 => (if v1 ≤ x1 then okZ 0 (some (0, z))
 else cs1 (ce_X6_isLoop vl K (r0 + 1000) x1 z) fun v3 z2 => (if v3 = 0 then go 2 x1 0 r0 z2
 else cs0 (ce_X7_removeCrossing vl K (r0 + 1000) x1 z2) fun z4 => okZ 1 (some (1, z4))))
def cm_X1_tidyOnce_2 (vl : Nat → Nat) (K : Nat) (go : Nat → Int32 → Int32 → Nat → ow_MS → Option (Int32 × ow_MS)) (x1 : Int32) (x2 : Int32) (r0 : Nat) (z : ow_MS) : Option (Int32 × ow_MS) :=
 (if x1 ≤ x2 then go 1 (x1 + 1) 0 r0 z
 else cs1 (ce_X6_isPair vl K (r0 + 1000) x1 x2 z) fun v6 z5 => (if v6 = 0 then go 2 x1 (x2 + 1) r0 z5
 else cs0 (ce_X7_removeCrossing vl K (r0 + 1000) x1 z5) fun z7 => cs0 (ce_X7_removeCrossing vl K (r0 + 1000) x2 z7) fun z8 => okZ 1 (some (1, z8))))
def cb_X1_tidyOnce (vl : Nat → Nat) (K : Nat) (go : Nat → Int32 → Int32 → Nat → ow_MS → Option (Int32 × ow_MS)) (L : Nat) (x1 : Int32) (x2 : Int32) (r0 : Nat) (z : ow_MS) : Option (Int32 × ow_MS) := match L with
  | 0 => cm_X1_tidyOnce_0 vl K go x1 x2 r0 z
  | 1 => cm_X1_tidyOnce_1 vl K go x1 x2 r0 z
  | 2 => cm_X1_tidyOnce_2 vl K go x1 x2 r0 z
  | _ => none
def c_X1_tidyOnce (vl : Nat → Nat) (K : Nat) : Nat → Nat → Int32 → Int32 → Nat → ow_MS → Option (Int32 × ow_MS)
  | 0 => fun _ _ _ _ _ => none
  | k + 1 => cb_X1_tidyOnce vl K (c_X1_tidyOnce vl K k)
def ce_X1_tidyOnce (vl : Nat → Nat) (K : Nat) (r0 : Nat) (z : ow_MS) : Option (Int32 × ow_MS) := c_X1_tidyOnce vl K K 0 0 0 r0 z
abbrev wc_X1_tidyOnce : List Cond := .code yX1_tidyOnce cX1_tidyOnce 3 (some .boolean) :: wC
theorem cdd_X1_tidyOnce : yX1_tidyOnce.cls = RX1 ∧ yX1_tidyOnce.cls ≠ "java/lang/invoke/MethodHandle" ∧ yX1_tidyOnce.cls ≠ "java/lang/invoke/VarHandle" ∧ (parseMethodDescriptor yX1_tidyOnce.desc).map (fun d => d.parameters.length) = some 0 := by decide +kernel
set_option maxHeartbeats 4000000 in
set_option maxRecDepth 100000 in
theorem kc_X1_tidyOnce (l : Launch) (D : va_G) (q : Nat → ClassId) (vl u : Nat → Nat) (hU0 : tw_inj (cX vl) u) (K : Nat) (r0 : Nat) (hr0 : cw_X1 r0) (z z1 : ow_MS) (r : Int32) (hq : ce_X1_tidyOnce vl K r0 z = some (r, z1)) : Met l yX1_tidyOnce wc_X1_tidyOnce ({ frames := 3, cells := 0, slots := 0, locals := 65 } : Room) (va_Pc [.ref (u r0)] (cw_pre D q vl u z)) (va_Qi (fun x (_ : Unit) => x = r) (fun _ t => va_P D vwCl (uw (cX vl) q u z1) t.heap) (tw_A (cX vl) u)) 0 0 (tw_A (cX vl) u) := by
  refine Met.ofW (cc := cX1_tidyOnce) (maxL := 3) (ret := (some .boolean)) (by decide) rfl ?_
  intro p e s m args below meth c s₁ B hml hv
  obtain ⟨rfl, hP, hK⟩ := hv
  have hx := B.exec
  have hb := B.bytes
  have hr := B.returns
  have hts := atoms_spec (ws := wc_X1_tidyOnce) B.pre
  have hT : ∀ w ∈ wC, w.before ([.ref (u r0)] : List Value).toArray s = true := fun w h => hts w (List.mem_cons_of_mem _ h)
  have hown : s.vm.findClass RX1 = some m.cls := findClass_of_methodNamed B.named
  have hlocks := B.notSynchronized
  have hU : uw_inj (cX vl) u (tw_A (cX vl) u) := ⟨hU0, fun h hh => ⟨h, hh, rfl⟩⟩
  have hM : uw_M D vwCl (cX vl) q (tw_A (cX vl) u) s.heap u z s.heap [] := ⟨hP, va_S.rf⟩
  have hl := lv_entry ([.ref (u r0)]) (n := 3) (Nat.le_of_ble_eq_true rfl)
  rw [lg_entry_eq]
  generalize (lg_sl ([.ref (u r0)]) ++ List.replicate (3 - (lg_sl ([.ref (u r0)])).length) Slot.unset).toArray = ls at hl ⊢
  have hl : lv_has ls 3 [(0, .ref (u r0))] := hl
  refine ow_named (fun QQ hQQ => ?_)
  generalize ([.ref (u r0)] : List Value).toArray = args at hts hT hQQ ⊢
  have key : ∀ k : Nat, (∀ (x1 : Int32) (x2 : Int32) (r0 : Nat) (z : ow_MS) (H : Heap) (locs : List Loc) (ls : Array Slot), cw_X1 r0 → uw_M D vwCl (cX vl) q (tw_A (cX vl) u) s.heap u z H locs → lv_has ls 3 [(0, .ref (u r0))] → c_X1_tidyOnce vl K k 0 x1 x2 r0 z = some (r, z1) → W p l e ({ frames := 3, cells := 0, slots := 0, locals := 65 } : Room) s m args below meth c H locs 0 0 QQ (F0 m 0 ls [])) ∧ (∀ (x1 : Int32) (x2 : Int32) (r0 : Nat) (z : ow_MS) (H : Heap) (locs : List Loc) (ls : Array Slot), cw_X1 r0 → uw_M D vwCl (cX vl) q (tw_A (cX vl) u) s.heap u z H locs → lv_has ls 3 [(0, .ref (u r0)), (1, .int x1)] → c_X1_tidyOnce vl K k 1 x1 x2 r0 z = some (r, z1) → W p l e ({ frames := 3, cells := 0, slots := 0, locals := 65 } : Room) s m args below meth c H locs 0 0 QQ (F0 m 2 ls [])) ∧ (∀ (x1 : Int32) (x2 : Int32) (r0 : Nat) (z : ow_MS) (H : Heap) (locs : List Loc) (ls : Array Slot), cw_X1 r0 → uw_M D vwCl (cX vl) q (tw_A (cX vl) u) s.heap u z H locs → lv_has ls 3 [(0, .ref (u r0)), (1, .int x1), (2, .int x2)] → c_X1_tidyOnce vl K k 2 x1 x2 r0 z = some (r, z1) → W p l e ({ frames := 3, cells := 0, slots := 0, locals := 65 } : Room) s m args below meth c H locs 0 0 QQ (F0 m 36 ls [])) := by
    intro k
    induction k with
    | zero => exact ⟨fun _ _ _ _ _ _ _ _ _ _ hq => cw_no hq, fun _ _ _ _ _ _ _ _ _ _ hq => cw_no hq, fun _ _ _ _ _ _ _ _ _ _ hq => cw_no hq⟩
    | succ k ih =>
      obtain ⟨ih_0, ih_1, ih_2⟩ := ih
      refine ⟨?_, ?_, ?_⟩
      · intro x1 x2 r0 z H locs ls hr0 hM hl hq
        have hq : cm_X1_tidyOnce_0 vl K (c_X1_tidyOnce vl K k) x1 x2 r0 z = some (r, z1) := hq
        unfold cm_X1_tidyOnce_0 at hq
        refine lv_iconst (v := 0) hx hb dcX1_tidyOnce_0 (by decide) ?_
        refine lv_istore_n (lv' := [(1, .int 0), (0, .ref (u r0))]) hx hb dcX1_tidyOnce_1 rfl hl (by decide) rfl (fun ls hl => ?_)
        exact ih_1 0 0 r0 z H locs ls hr0 hM (lv_sub hl [1, 0] rfl) hq
      · intro x1 x2 r0 z H locs ls hr0 hM hl hq
        have hq : cm_X1_tidyOnce_1 vl K (c_X1_tidyOnce vl K k) x1 x2 r0 z = some (r, z1) := hq
        unfold cm_X1_tidyOnce_1 at hq
        refine lv_iload_n hx hb dcX1_tidyOnce_2 rfl (lv_at hl 1 rfl) ?_
        refine lv_aload_n hx hb dcX1_tidyOnce_3 rfl (lv_at hl 0 rfl) ?_
        refine vgX1_12 hx hb hT hown hK hM hr0 dcX1_tidyOnce_4 ?_
        refine vgX1_90 hx hb hT hown hK hM (cs_X1_0 hr0) hq dcX1_tidyOnce_7 (fun v1 hq => ?_)
        refine lv_icmp_ge (tgt := 83) hx hb dcX1_tidyOnce_10 (by decide) (fun hc => ?_) (fun hc => ?_)
        · have hq := tw_it hq hc
          refine lv_iconst (v := 0) hx hb dcX1_tidyOnce_83 (by decide) ?_
          obtain ⟨hz, hq⟩ := tw_gZ hq
          exact cw_zret hx hb hr hlocks hM hz hq hQQ dcX1_tidyOnce_84
        · have hq := tw_if hq hc
          refine lv_aload_n hx hb dcX1_tidyOnce_13 rfl (lv_at hl 0 rfl) ?_
          refine vgX1_12 hx hb hT hown hK hM hr0 dcX1_tidyOnce_14 ?_
          refine lv_iload_n hx hb dcX1_tidyOnce_17 rfl (lv_at hl 1 rfl) ?_
          obtain ⟨v3, z2, hcq, hq⟩ := tw_cl1 hq
          refine uw_cali hU hM (va_runS (As := [.ref (u (r0 + 1000)), .int x1]) (rest := []) ⟨hx, hb, hml, hown, hts⟩ (kc_X6_isLoop l D q vl u hU.1 K (r0 + 1000) x1 (cs_X1_0 hr0) z z2 v3 hcq) (va_cwS 2 hts (tw_gS wC_good xq_144 xq_145 xq_146 xq_147) rfl rfl rfl cdd_X6_isLoop ⟨(Nat.le_of_ble_eq_true rfl), (Nat.le_of_ble_eq_true rfl)⟩) (cw_preS hK hM) rfl rfl hl.1 rfl (lv_room (Nat.le_of_ble_eq_true rfl)) dcX1_tidyOnce_18 ⟨(Nat.le_of_ble_eq_true rfl), (Nat.le_of_ble_eq_true rfl)⟩) (fun H locs hM => ?_)
          refine lv_if_eq (tgt := 34) hx hb dcX1_tidyOnce_21 (by decide) (fun hc => ?_) (fun hc => ?_)
          · have hq := tw_it hq hc
            refine lv_iconst (v := 0) hx hb dcX1_tidyOnce_34 (by decide) ?_
            refine lv_istore_n (lv' := [(2, .int 0), (0, .ref (u r0)), (1, .int x1)]) hx hb dcX1_tidyOnce_35 rfl hl (by decide) rfl (fun ls hl => ?_)
            exact ih_2 x1 0 r0 z2 H locs ls hr0 hM (lv_sub hl [1, 2, 0] rfl) hq
          · have hq := tw_if hq hc
            refine lv_aload_n hx hb dcX1_tidyOnce_24 rfl (lv_at hl 0 rfl) ?_
            refine vgX1_12 hx hb hT hown hK hM hr0 dcX1_tidyOnce_25 ?_
            refine lv_iload_n hx hb dcX1_tidyOnce_28 rfl (lv_at hl 1 rfl) ?_
            obtain ⟨z4, hcq, hq⟩ := tw_cl0 hq
            refine uw_calv hU hM (va_runV (As := [.int x1]) (rest := []) ⟨hx, hb, hml, hown, hts⟩ (kc_X7_removeCrossing l D q vl u hU.1 K (r0 + 1000) x1 (cs_X1_0 hr0) z2 z4 hcq) (cwV 1 hts (tw_gV wC_good xq_152 xq_153 xq_154 xq_54 xq_155) rfl rfl rfl cdd_X7_removeCrossing ⟨(Nat.le_of_ble_eq_true rfl), (Nat.le_of_ble_eq_true rfl)⟩) (cw_preV hK hM (co_X7 (cs_X1_0 hr0)) rfl) rfl rfl hl.1 rfl (lv_room (Nat.le_of_ble_eq_true rfl)) dcX1_tidyOnce_29 ⟨(Nat.le_of_ble_eq_true rfl), (Nat.le_of_ble_eq_true rfl)⟩) (fun H locs hM => ?_)
            refine lv_iconst (v := 1) hx hb dcX1_tidyOnce_32 (by decide) ?_
            obtain ⟨hz, hq⟩ := tw_gZ hq
            exact cw_zret hx hb hr hlocks hM hz hq hQQ dcX1_tidyOnce_33
      · intro x1 x2 r0 z H locs ls hr0 hM hl hq
        have hq : cm_X1_tidyOnce_2 vl K (c_X1_tidyOnce vl K k) x1 x2 r0 z = some (r, z1) := hq
        unfold cm_X1_tidyOnce_2 at hq
        refine lv_iload_n hx hb dcX1_tidyOnce_36 rfl (lv_at hl 2 rfl) ?_
        refine lv_iload_n hx hb dcX1_tidyOnce_37 rfl (lv_at hl 1 rfl) ?_
        refine lv_icmp_ge (tgt := 77) hx hb dcX1_tidyOnce_38 (by decide) (fun hc => ?_) (fun hc => ?_)
        · have hq := tw_it hq hc
          refine lv_iinc (v := (x1 + 1)) (lv' := [(1, .int (x1 + 1)), (0, .ref (u r0)), (2, .int x2)]) hx hb dcX1_tidyOnce_77 hl (k := 1) rfl rfl (by decide) rfl (fun ls hl => ?_)
          refine lv_goto (tgt := 2) hx hb dcX1_tidyOnce_80 (by decide) ?_
          exact ih_1 (x1 + 1) 0 r0 z H locs ls hr0 hM (lv_sub hl [1, 0] rfl) hq
        · have hq := tw_if hq hc
          refine lv_aload_n hx hb dcX1_tidyOnce_41 rfl (lv_at hl 0 rfl) ?_
          refine vgX1_12 hx hb hT hown hK hM hr0 dcX1_tidyOnce_42 ?_
          refine lv_iload_n hx hb dcX1_tidyOnce_45 rfl (lv_at hl 1 rfl) ?_
          refine lv_iload_n hx hb dcX1_tidyOnce_46 rfl (lv_at hl 2 rfl) ?_
          obtain ⟨v6, z5, hcq, hq⟩ := tw_cl1 hq
          refine uw_cali hU hM (va_runS (As := [.ref (u (r0 + 1000)), .int x1, .int x2]) (rest := []) ⟨hx, hb, hml, hown, hts⟩ (kc_X6_isPair l D q vl u hU.1 K (r0 + 1000) x1 x2 (cs_X1_0 hr0) z z5 v6 hcq) (va_cwS 3 hts (tw_gS wC_good xq_168 xq_169 xq_146 xq_170) rfl rfl rfl cdd_X6_isPair ⟨(Nat.le_of_ble_eq_true rfl), (Nat.le_of_ble_eq_true rfl)⟩) (cw_preS hK hM) rfl rfl hl.1 rfl (lv_room (Nat.le_of_ble_eq_true rfl)) dcX1_tidyOnce_47 ⟨(Nat.le_of_ble_eq_true rfl), (Nat.le_of_ble_eq_true rfl)⟩) (fun H locs hM => ?_)
          refine lv_if_eq (tgt := 71) hx hb dcX1_tidyOnce_50 (by decide) (fun hc => ?_) (fun hc => ?_)
          · have hq := tw_it hq hc
            refine lv_iinc (v := (x2 + 1)) (lv' := [(2, .int (x2 + 1)), (0, .ref (u r0)), (1, .int x1)]) hx hb dcX1_tidyOnce_71 hl (k := 2) rfl rfl (by decide) rfl (fun ls hl => ?_)
            refine lv_goto (tgt := 36) hx hb dcX1_tidyOnce_74 (by decide) ?_
            exact ih_2 x1 (x2 + 1) r0 z5 H locs ls hr0 hM (lv_sub hl [1, 2, 0] rfl) hq
          · have hq := tw_if hq hc
            refine lv_aload_n hx hb dcX1_tidyOnce_53 rfl (lv_at hl 0 rfl) ?_
            refine vgX1_12 hx hb hT hown hK hM hr0 dcX1_tidyOnce_54 ?_
            refine lv_iload_n hx hb dcX1_tidyOnce_57 rfl (lv_at hl 1 rfl) ?_
            obtain ⟨z7, hcq, hq⟩ := tw_cl0 hq
            refine uw_calv hU hM (va_runV (As := [.int x1]) (rest := []) ⟨hx, hb, hml, hown, hts⟩ (kc_X7_removeCrossing l D q vl u hU.1 K (r0 + 1000) x1 (cs_X1_0 hr0) z5 z7 hcq) (cwV 1 hts (tw_gV wC_good xq_152 xq_153 xq_154 xq_54 xq_155) rfl rfl rfl cdd_X7_removeCrossing ⟨(Nat.le_of_ble_eq_true rfl), (Nat.le_of_ble_eq_true rfl)⟩) (cw_preV hK hM (co_X7 (cs_X1_0 hr0)) rfl) rfl rfl hl.1 rfl (lv_room (Nat.le_of_ble_eq_true rfl)) dcX1_tidyOnce_58 ⟨(Nat.le_of_ble_eq_true rfl), (Nat.le_of_ble_eq_true rfl)⟩) (fun H locs hM => ?_)
            refine lv_aload_n hx hb dcX1_tidyOnce_61 rfl (lv_at hl 0 rfl) ?_
            refine vgX1_12 hx hb hT hown hK hM hr0 dcX1_tidyOnce_62 ?_
            refine lv_iload_n hx hb dcX1_tidyOnce_65 rfl (lv_at hl 2 rfl) ?_
            obtain ⟨z8, hcq, hq⟩ := tw_cl0 hq
            refine uw_calv hU hM (va_runV (As := [.int x2]) (rest := []) ⟨hx, hb, hml, hown, hts⟩ (kc_X7_removeCrossing l D q vl u hU.1 K (r0 + 1000) x2 (cs_X1_0 hr0) z7 z8 hcq) (cwV 1 hts (tw_gV wC_good xq_152 xq_153 xq_154 xq_54 xq_155) rfl rfl rfl cdd_X7_removeCrossing ⟨(Nat.le_of_ble_eq_true rfl), (Nat.le_of_ble_eq_true rfl)⟩) (cw_preV hK hM (co_X7 (cs_X1_0 hr0)) rfl) rfl rfl hl.1 rfl (lv_room (Nat.le_of_ble_eq_true rfl)) dcX1_tidyOnce_66 ⟨(Nat.le_of_ble_eq_true rfl), (Nat.le_of_ble_eq_true rfl)⟩) (fun H locs hM => ?_)
            refine lv_iconst (v := 1) hx hb dcX1_tidyOnce_69 (by decide) ?_
            obtain ⟨hz, hq⟩ := tw_gZ hq
            exact cw_zret hx hb hr hlocks hM hz hq hQQ dcX1_tidyOnce_70
  exact (key K).1 0 0 r0 z s.heap [] ls hr0 hM (lv_sub hl [0] rfl) hq
theorem dcX1_tidy_0 : decode cX1_tidy 0 = .ok (.iconst 1, 1) := by decide +kernel
theorem dcX1_tidy_1 : decode cX1_tidy 1 = .ok (.istore_n 1, 1) := by decide +kernel
theorem dcX1_tidy_2 : decode cX1_tidy 2 = .ok (.iconst 0, 1) := by decide +kernel
theorem dcX1_tidy_3 : decode cX1_tidy 3 = .ok (.istore_n 2, 1) := by decide +kernel
theorem dcX1_tidy_4 : decode cX1_tidy 4 = .ok (.iload_n 2, 1) := by decide +kernel
theorem dcX1_tidy_5 : decode cX1_tidy 5 = .ok (.bipush 8, 2) := by decide +kernel
theorem dcX1_tidy_7 : decode cX1_tidy 7 = .ok (.if_icmp .gt 18, 3) := by decide +kernel
theorem dcX1_tidy_10 : decode cX1_tidy 10 = .ok (.iload_n 1, 1) := by decide +kernel
theorem dcX1_tidy_11 : decode cX1_tidy 11 = .ok (.ifCond .eq 14, 3) := by decide +kernel
theorem dcX1_tidy_14 : decode cX1_tidy 14 = .ok (.aload_n 0, 1) := by decide +kernel
theorem dcX1_tidy_15 : decode cX1_tidy 15 = .ok (.invokevirtual 121, 3) := by decide +kernel
theorem dcX1_tidy_18 : decode cX1_tidy 18 = .ok (.istore_n 1, 1) := by decide +kernel
theorem dcX1_tidy_19 : decode cX1_tidy 19 = .ok (.iinc 2 1, 3) := by decide +kernel
theorem dcX1_tidy_22 : decode cX1_tidy 22 = .ok (.goto (-18), 3) := by decide +kernel
theorem dcX1_tidy_25 : decode cX1_tidy 25 = .ok (.return_, 1) := by decide +kernel
def cm_X1_tidy_0 (vl : Nat → Nat) (K : Nat) (go : Nat → Int32 → Int32 → Nat → ow_MS → Option ow_MS) (x1 : Int32) (x2 : Int32) (r0 : Nat) (z : ow_MS) : Option ow_MS :=
 go 1 1 0 r0 z
def cm_X1_tidy_1 (vl : Nat → Nat) (K : Nat) (go : Nat → Int32 → Int32 → Nat → ow_MS → Option ow_MS) (x1 : Int32) (x2 : Int32) (r0 : Nat) (z : ow_MS) : Option ow_MS :=
 (if 8 < x2 then some z
 else (if x1 = 0 then some z
 else cs1 (ce_X1_tidyOnce vl K r0 z) fun v2 z1 => go 1 v2 (x2 + 1) r0 z1))
def cb_X1_tidy (vl : Nat → Nat) (K : Nat) (go : Nat → Int32 → Int32 → Nat → ow_MS → Option ow_MS) (L : Nat) (x1 : Int32) (x2 : Int32) (r0 : Nat) (z : ow_MS) : Option ow_MS := match L with
  | 0 => cm_X1_tidy_0 vl K go x1 x2 r0 z
  | 1 => cm_X1_tidy_1 vl K go x1 x2 r0 z
  | _ => none
def c_X1_tidy (vl : Nat → Nat) (K : Nat) : Nat → Nat → Int32 → Int32 → Nat → ow_MS → Option ow_MS
  | 0 => fun _ _ _ _ _ => none
  | k + 1 => cb_X1_tidy vl K (c_X1_tidy vl K k)
def ce_X1_tidy (vl : Nat → Nat) (K : Nat) (r0 : Nat) (z : ow_MS) : Option ow_MS := c_X1_tidy vl K K 0 0 0 r0 z
abbrev wc_X1_tidy : List Cond := .code yX1_tidy cX1_tidy 3 none :: wC
theorem cdd_X1_tidy : yX1_tidy.cls = RX1 ∧ yX1_tidy.cls ≠ "java/lang/invoke/MethodHandle" ∧ yX1_tidy.cls ≠ "java/lang/invoke/VarHandle" ∧ (parseMethodDescriptor yX1_tidy.desc).map (fun d => d.parameters.length) = some 0 := by decide +kernel
set_option maxHeartbeats 4000000 in
set_option maxRecDepth 100000 in
theorem kc_X1_tidy (l : Launch) (D : va_G) (q : Nat → ClassId) (vl u : Nat → Nat) (hU0 : tw_inj (cX vl) u) (K : Nat) (r0 : Nat) (hr0 : cw_X1 r0) (z z1 : ow_MS) (hq : ce_X1_tidy vl K r0 z = some z1) : Met l yX1_tidy wc_X1_tidy ({ frames := 4, cells := 0, slots := 0, locals := 87 } : Room) (va_Pc [.ref (u r0)] (cw_pre D q vl u z)) (va_Qv (fun (_ : Unit) => True) (fun _ t => va_P D vwCl (uw (cX vl) q u z1) t.heap) (tw_A (cX vl) u)) 0 0 (tw_A (cX vl) u) := by
  refine Met.ofW (cc := cX1_tidy) (maxL := 3) (ret := none) (by decide) rfl ?_
  intro p e s m args below meth c s₁ B hml hv
  obtain ⟨rfl, hP, hK⟩ := hv
  have hx := B.exec
  have hb := B.bytes
  have hr := B.returns
  have hts := atoms_spec (ws := wc_X1_tidy) B.pre
  have hT : ∀ w ∈ wC, w.before ([.ref (u r0)] : List Value).toArray s = true := fun w h => hts w (List.mem_cons_of_mem _ h)
  have hown : s.vm.findClass RX1 = some m.cls := findClass_of_methodNamed B.named
  have hlocks := B.notSynchronized
  have hU : uw_inj (cX vl) u (tw_A (cX vl) u) := ⟨hU0, fun h hh => ⟨h, hh, rfl⟩⟩
  have hM : uw_M D vwCl (cX vl) q (tw_A (cX vl) u) s.heap u z s.heap [] := ⟨hP, va_S.rf⟩
  have hl := lv_entry ([.ref (u r0)]) (n := 3) (Nat.le_of_ble_eq_true rfl)
  rw [lg_entry_eq]
  generalize (lg_sl ([.ref (u r0)]) ++ List.replicate (3 - (lg_sl ([.ref (u r0)])).length) Slot.unset).toArray = ls at hl ⊢
  have hl : lv_has ls 3 [(0, .ref (u r0))] := hl
  refine ow_named (fun QQ hQQ => ?_)
  generalize ([.ref (u r0)] : List Value).toArray = args at hts hT hQQ ⊢
  have key : ∀ k : Nat, (∀ (x1 : Int32) (x2 : Int32) (r0 : Nat) (z : ow_MS) (H : Heap) (locs : List Loc) (ls : Array Slot), cw_X1 r0 → uw_M D vwCl (cX vl) q (tw_A (cX vl) u) s.heap u z H locs → lv_has ls 3 [(0, .ref (u r0))] → c_X1_tidy vl K k 0 x1 x2 r0 z = some z1 → W p l e ({ frames := 4, cells := 0, slots := 0, locals := 87 } : Room) s m args below meth c H locs 0 0 QQ (F0 m 0 ls [])) ∧ (∀ (x1 : Int32) (x2 : Int32) (r0 : Nat) (z : ow_MS) (H : Heap) (locs : List Loc) (ls : Array Slot), cw_X1 r0 → uw_M D vwCl (cX vl) q (tw_A (cX vl) u) s.heap u z H locs → lv_has ls 3 [(0, .ref (u r0)), (1, .int x1), (2, .int x2)] → c_X1_tidy vl K k 1 x1 x2 r0 z = some z1 → W p l e ({ frames := 4, cells := 0, slots := 0, locals := 87 } : Room) s m args below meth c H locs 0 0 QQ (F0 m 4 ls [])) := by
    intro k
    induction k with
    | zero => exact ⟨fun _ _ _ _ _ _ _ _ _ _ hq => cw_no hq, fun _ _ _ _ _ _ _ _ _ _ hq => cw_no hq⟩
    | succ k ih =>
      obtain ⟨ih_0, ih_1⟩ := ih
      refine ⟨?_, ?_⟩
      · intro x1 x2 r0 z H locs ls hr0 hM hl hq
        have hq : cm_X1_tidy_0 vl K (c_X1_tidy vl K k) x1 x2 r0 z = some z1 := hq
        unfold cm_X1_tidy_0 at hq
        refine lv_iconst (v := 1) hx hb dcX1_tidy_0 (by decide) ?_
        refine lv_istore_n (lv' := [(1, .int 1), (0, .ref (u r0))]) hx hb dcX1_tidy_1 rfl hl (by decide) rfl (fun ls hl => ?_)
        refine lv_iconst (v := 0) hx hb dcX1_tidy_2 (by decide) ?_
        refine lv_istore_n (lv' := [(2, .int 0), (1, .int 1), (0, .ref (u r0))]) hx hb dcX1_tidy_3 rfl hl (by decide) rfl (fun ls hl => ?_)
        exact ih_1 1 0 r0 z H locs ls hr0 hM (lv_sub hl [2, 1, 0] rfl) hq
      · intro x1 x2 r0 z H locs ls hr0 hM hl hq
        have hq : cm_X1_tidy_1 vl K (c_X1_tidy vl K k) x1 x2 r0 z = some z1 := hq
        unfold cm_X1_tidy_1 at hq
        refine lv_iload_n hx hb dcX1_tidy_4 rfl (lv_at hl 2 rfl) ?_
        refine lv_bipush (v := 8) hx hb dcX1_tidy_5 (by decide) ?_
        refine lv_icmp_gt (tgt := 25) hx hb dcX1_tidy_7 (by decide) (fun hc => ?_) (fun hc => ?_)
        · have hq := tw_it hq hc
          exact cw_vret hx hb hr hlocks hM hq hQQ dcX1_tidy_25
        · have hq := tw_if hq hc
          refine lv_iload_n hx hb dcX1_tidy_10 rfl (lv_at hl 1 rfl) ?_
          refine lv_if_eq (tgt := 25) hx hb dcX1_tidy_11 (by decide) (fun hc => ?_) (fun hc => ?_)
          · have hq := tw_it hq hc
            exact cw_vret hx hb hr hlocks hM hq hQQ dcX1_tidy_25
          · have hq := tw_if hq hc
            refine lv_aload_n hx hb dcX1_tidy_14 rfl (lv_at hl 0 rfl) ?_
            obtain ⟨v2, z1, hcq, hq⟩ := tw_cl1 hq
            refine uw_cali hU hM (va_runV (As := []) (rest := []) ⟨hx, hb, hml, hown, hts⟩ (kc_X1_tidyOnce l D q vl u hU.1 K r0 hr0 z z1 v2 hcq) (cwV 0 hts (tw_gV wC_good xq_140 xq_141 xq_142 xq_138 xq_143) rfl rfl rfl cdd_X1_tidyOnce ⟨(Nat.le_of_ble_eq_true rfl), (Nat.le_of_ble_eq_true rfl)⟩) (cw_preV hK hM (co_X1 hr0) rfl) rfl rfl hl.1 rfl (lv_room (Nat.le_of_ble_eq_true rfl)) dcX1_tidy_15 ⟨(Nat.le_of_ble_eq_true rfl), (Nat.le_of_ble_eq_true rfl)⟩) (fun H locs hM => ?_)
            refine lv_istore_n (lv' := [(1, .int v2), (0, .ref (u r0)), (2, .int x2)]) hx hb dcX1_tidy_18 rfl hl (by decide) rfl (fun ls hl => ?_)
            refine lv_iinc (v := (x2 + 1)) (lv' := [(2, .int (x2 + 1)), (1, .int v2), (0, .ref (u r0))]) hx hb dcX1_tidy_19 hl (k := 2) rfl rfl (by decide) rfl (fun ls hl => ?_)
            refine lv_goto (tgt := 4) hx hb dcX1_tidy_22 (by decide) ?_
            exact ih_1 v2 (x2 + 1) r0 z1 H locs ls hr0 hM (lv_sub hl [2, 1, 0] rfl) hq
  exact (key K).1 0 0 r0 z s.heap [] ls hr0 hM (lv_sub hl [0] rfl) hq
theorem dcX7_copy_0 : decode cX7_copy 0 = .ok (.aload_n 0, 1) := dw_at cX7_copy_k0 (p := 0) rfl (by decide +kernel)
theorem dcX7_copy_1 : decode cX7_copy 1 = .ok (.aload_n 1, 1) := dw_at cX7_copy_k0 (p := 1) rfl (by decide +kernel)
theorem dcX7_copy_2 : decode cX7_copy 2 = .ok (.getfield 39, 3) := dw_at cX7_copy_k0 (p := 2) rfl (by decide +kernel)
theorem dcX7_copy_5 : decode cX7_copy 5 = .ok (.putfield 39, 3) := dw_at cX7_copy_k0 (p := 5) rfl (by decide +kernel)
theorem dcX7_copy_8 : decode cX7_copy 8 = .ok (.aload_n 0, 1) := dw_at cX7_copy_k0 (p := 8) rfl (by decide +kernel)
theorem dcX7_copy_9 : decode cX7_copy 9 = .ok (.aload_n 1, 1) := dw_at cX7_copy_k0 (p := 9) rfl (by decide +kernel)
theorem dcX7_copy_10 : decode cX7_copy 10 = .ok (.getfield 42, 3) := dw_at cX7_copy_k0 (p := 10) rfl (by decide +kernel)
theorem dcX7_copy_13 : decode cX7_copy 13 = .ok (.putfield 42, 3) := dw_at cX7_copy_k0 (p := 13) rfl (by decide +kernel)
theorem dcX7_copy_16 : decode cX7_copy 16 = .ok (.aload_n 1, 1) := dw_at cX7_copy_k0 (p := 16) rfl (by decide +kernel)
theorem dcX7_copy_17 : decode cX7_copy 17 = .ok (.getfield 9, 3) := dw_at cX7_copy_k0 (p := 17) rfl (by decide +kernel)
theorem dcX7_copy_20 : decode cX7_copy 20 = .ok (.iconst 0, 1) := dw_at cX7_copy_k0 (p := 20) rfl (by decide +kernel)
theorem dcX7_copy_21 : decode cX7_copy 21 = .ok (.aload_n 0, 1) := dw_at cX7_copy_k0 (p := 21) rfl (by decide +kernel)
theorem dcX7_copy_22 : decode cX7_copy 22 = .ok (.getfield 9, 3) := dw_at cX7_copy_k0 (p := 22) rfl (by decide +kernel)
theorem dcX7_copy_25 : decode cX7_copy 25 = .ok (.iconst 0, 1) := dw_at cX7_copy_k1 (p := 0) rfl (by decide +kernel)
theorem dcX7_copy_26 : decode cX7_copy 26 = .ok (.iconst 2, 1) := dw_at cX7_copy_k1 (p := 1) rfl (by decide +kernel)
theorem dcX7_copy_27 : decode cX7_copy 27 = .ok (.aload_n 0, 1) := dw_at cX7_copy_k1 (p := 2) rfl (by decide +kernel)
theorem dcX7_copy_28 : decode cX7_copy 28 = .ok (.getfield 39, 3) := dw_at cX7_copy_k1 (p := 3) rfl (by decide +kernel)
theorem dcX7_copy_31 : decode cX7_copy 31 = .ok (.imul, 1) := dw_at cX7_copy_k1 (p := 6) rfl (by decide +kernel)
theorem dcX7_copy_32 : decode cX7_copy 32 = .ok (.invokestatic 58, 3) := dw_at cX7_copy_k1 (p := 7) rfl (by decide +kernel)
theorem dcX7_copy_35 : decode cX7_copy 35 = .ok (.aload_n 1, 1) := dw_at cX7_copy_k1 (p := 10) rfl (by decide +kernel)
theorem dcX7_copy_36 : decode cX7_copy 36 = .ok (.getfield 15, 3) := dw_at cX7_copy_k1 (p := 11) rfl (by decide +kernel)
theorem dcX7_copy_39 : decode cX7_copy 39 = .ok (.iconst 0, 1) := dw_at cX7_copy_k1 (p := 14) rfl (by decide +kernel)
theorem dcX7_copy_40 : decode cX7_copy 40 = .ok (.aload_n 0, 1) := dw_at cX7_copy_k1 (p := 15) rfl (by decide +kernel)
theorem dcX7_copy_41 : decode cX7_copy 41 = .ok (.getfield 15, 3) := dw_at cX7_copy_k1 (p := 16) rfl (by decide +kernel)
theorem dcX7_copy_44 : decode cX7_copy 44 = .ok (.iconst 0, 1) := dw_at cX7_copy_k1 (p := 19) rfl (by decide +kernel)
theorem dcX7_copy_45 : decode cX7_copy 45 = .ok (.iconst 2, 1) := dw_at cX7_copy_k1 (p := 20) rfl (by decide +kernel)
theorem dcX7_copy_46 : decode cX7_copy 46 = .ok (.aload_n 0, 1) := dw_at cX7_copy_k1 (p := 21) rfl (by decide +kernel)
theorem dcX7_copy_47 : decode cX7_copy 47 = .ok (.getfield 39, 3) := dw_at cX7_copy_k1 (p := 22) rfl (by decide +kernel)
theorem dcX7_copy_50 : decode cX7_copy 50 = .ok (.imul, 1) := dw_at cX7_copy_k2 (p := 0) rfl (by decide +kernel)
theorem dcX7_copy_51 : decode cX7_copy 51 = .ok (.invokestatic 58, 3) := dw_at cX7_copy_k2 (p := 1) rfl (by decide +kernel)
theorem dcX7_copy_54 : decode cX7_copy 54 = .ok (.aload_n 1, 1) := dw_at cX7_copy_k2 (p := 4) rfl (by decide +kernel)
theorem dcX7_copy_55 : decode cX7_copy 55 = .ok (.getfield 18, 3) := dw_at cX7_copy_k2 (p := 5) rfl (by decide +kernel)
theorem dcX7_copy_58 : decode cX7_copy 58 = .ok (.iconst 0, 1) := dw_at cX7_copy_k2 (p := 8) rfl (by decide +kernel)
theorem dcX7_copy_59 : decode cX7_copy 59 = .ok (.aload_n 0, 1) := dw_at cX7_copy_k2 (p := 9) rfl (by decide +kernel)
theorem dcX7_copy_60 : decode cX7_copy 60 = .ok (.getfield 18, 3) := dw_at cX7_copy_k2 (p := 10) rfl (by decide +kernel)
theorem dcX7_copy_63 : decode cX7_copy 63 = .ok (.iconst 0, 1) := dw_at cX7_copy_k2 (p := 13) rfl (by decide +kernel)
theorem dcX7_copy_64 : decode cX7_copy 64 = .ok (.aload_n 0, 1) := dw_at cX7_copy_k2 (p := 14) rfl (by decide +kernel)
theorem dcX7_copy_65 : decode cX7_copy 65 = .ok (.getfield 39, 3) := dw_at cX7_copy_k2 (p := 15) rfl (by decide +kernel)
theorem dcX7_copy_68 : decode cX7_copy 68 = .ok (.invokestatic 58, 3) := dw_at cX7_copy_k2 (p := 18) rfl (by decide +kernel)
theorem dcX7_copy_71 : decode cX7_copy 71 = .ok (.return_, 1) := dw_at cX7_copy_k2 (p := 21) rfl (by decide +kernel)
def cm_X7_copy_0 (vl : Nat → Nat) (K : Nat) (r0 : Nat) (r1 : Nat) (z : ow_MS) : Option ow_MS :=
 rdF z (r1 + 8) fun v1 => wrF z (r0 + 8) v1 fun z2 => rdF z2 (r1 + 9) fun v3 => wrF z2 (r0 + 9) v3 fun z4 => rdF z4 (r0 + 8) fun v5 => cpI (cX vl) z4 (r1 + 1) 0 (r0 + 1) 0 (2 * v5) fun z6 => rdF z6 (r0 + 8) fun v7 => cpI (cX vl) z6 (r1 + 2) 0 (r0 + 2) 0 (2 * v7) fun z8 => rdF z8 (r0 + 8) fun v9 => cpI (cX vl) z8 (r1 + 3) 0 (r0 + 3) 0 v9 fun z10 => some z10
def ce_X7_copy (vl : Nat → Nat) (K : Nat) (r0 : Nat) (r1 : Nat) (z : ow_MS) : Option ow_MS := cm_X7_copy_0 vl K r0 r1 z
abbrev wc_X7_copy : List Cond := .code yX7_copy cX7_copy 2 none :: wC
theorem cdd_X7_copy : yX7_copy.cls = RX7 ∧ yX7_copy.cls ≠ "java/lang/invoke/MethodHandle" ∧ yX7_copy.cls ≠ "java/lang/invoke/VarHandle" ∧ (parseMethodDescriptor yX7_copy.desc).map (fun d => d.parameters.length) = some 1 := by decide +kernel
set_option maxHeartbeats 4000000 in
set_option maxRecDepth 100000 in
theorem kc_X7_copy (l : Launch) (D : va_G) (q : Nat → ClassId) (vl u : Nat → Nat) (hU0 : tw_inj (cX vl) u) (K : Nat) (r0 : Nat) (r1 : Nat) (hr0 : cw_X7 r0) (hr1 : cw_X7 r1) (z z1 : ow_MS) (hq : ce_X7_copy vl K r0 r1 z = some z1) : Met l yX7_copy wc_X7_copy ({ frames := 1, cells := 0, slots := 0, locals := 60 } : Room) (va_Pc [.ref (u r0), .ref (u r1)] (cw_pre D q vl u z)) (va_Qv (fun (_ : Unit) => True) (fun _ t => va_P D vwCl (uw (cX vl) q u z1) t.heap) (tw_A (cX vl) u)) 0 0 (tw_A (cX vl) u) := by
  refine Met.ofW (cc := cX7_copy) (maxL := 2) (ret := none) (by decide) rfl ?_
  intro p e s m args below meth c s₁ B hml hv
  obtain ⟨rfl, hP, hK⟩ := hv
  have hx := B.exec
  have hb := B.bytes
  have hr := B.returns
  have hts := atoms_spec (ws := wc_X7_copy) B.pre
  have hT : ∀ w ∈ wC, w.before ([.ref (u r0), .ref (u r1)] : List Value).toArray s = true := fun w h => hts w (List.mem_cons_of_mem _ h)
  have hown : s.vm.findClass RX7 = some m.cls := findClass_of_methodNamed B.named
  have hlocks := B.notSynchronized
  have hU : uw_inj (cX vl) u (tw_A (cX vl) u) := ⟨hU0, fun h hh => ⟨h, hh, rfl⟩⟩
  have hM : uw_M D vwCl (cX vl) q (tw_A (cX vl) u) s.heap u z s.heap [] := ⟨hP, va_S.rf⟩
  have hl := lv_entry ([.ref (u r0), .ref (u r1)]) (n := 2) (Nat.le_of_ble_eq_true rfl)
  rw [lg_entry_eq]
  generalize (lg_sl ([.ref (u r0), .ref (u r1)]) ++ List.replicate (2 - (lg_sl ([.ref (u r0), .ref (u r1)])).length) Slot.unset).toArray = ls at hl ⊢
  have hl : lv_has ls 2 [(0, .ref (u r0)), (1, .ref (u r1))] := hl
  refine ow_named (fun QQ hQQ => ?_)
  generalize ([.ref (u r0), .ref (u r1)] : List Value).toArray = args at hts hT hQQ ⊢
  have hq : cm_X7_copy_0 vl K r0 r1 z = some z1 := hq
  unfold cm_X7_copy_0 at hq
  suffices key : ∀ (H : Heap) (locs : List Loc), uw_M D vwCl (cX vl) q (tw_A (cX vl) u) s.heap u z H locs → W p l e ({ frames := 1, cells := 0, slots := 0, locals := 60 } : Room) s m args below meth c H locs 0 0 QQ (F0 m 0 ls []) from key s.heap [] hM
  intro H locs hM
  refine lv_aload_n hx hb dcX7_copy_0 rfl (lv_at hl 0 rfl) ?_
  refine lv_aload_n hx hb dcX7_copy_1 rfl (lv_at hl 1 rfl) ?_
  refine vgX7_39 hx hb hT hown hK hM hr1 hq dcX7_copy_2 (fun v1 hq => ?_)
  refine vpX7_39 hx hb hT hown hK hM hU hr0 hq dcX7_copy_5 (fun z2 H locs hM hq => ?_)
  refine lv_aload_n hx hb dcX7_copy_8 rfl (lv_at hl 0 rfl) ?_
  refine lv_aload_n hx hb dcX7_copy_9 rfl (lv_at hl 1 rfl) ?_
  refine vgX7_42 hx hb hT hown hK hM hr1 hq dcX7_copy_10 (fun v3 hq => ?_)
  refine vpX7_42 hx hb hT hown hK hM hU hr0 hq dcX7_copy_13 (fun z4 H locs hM hq => ?_)
  refine lv_aload_n hx hb dcX7_copy_16 rfl (lv_at hl 1 rfl) ?_
  refine vgX7_9 hx hb hT hown hK hM hr1 dcX7_copy_17 ?_
  refine lv_iconst (v := 0) hx hb dcX7_copy_20 (by decide) ?_
  refine lv_aload_n hx hb dcX7_copy_21 rfl (lv_at hl 0 rfl) ?_
  refine vgX7_9 hx hb hT hown hK hM hr0 dcX7_copy_22 ?_
  refine lv_iconst (v := 0) hx hb dcX7_copy_25 (by decide) ?_
  refine lv_iconst (v := 2) hx hb dcX7_copy_26 (by decide) ?_
  refine lv_aload_n hx hb dcX7_copy_27 rfl (lv_at hl 0 rfl) ?_
  refine vgX7_39 hx hb hT hown hK hM hr0 hq dcX7_copy_28 (fun v5 hq => ?_)
  refine lv_imul hx hb dcX7_copy_31 ?_
  refine uw_cpI cX_ok hU hx hb (by rw [hml]; exact hl.1.symm) hown (hT _ xq_129) (hT _ xq_130) (hT _ xq_131) (hT _ xq_132) hK hM (cr_X7_0 hr1) (cr_X7_0 hr0) hq (Nat.le_of_ble_eq_true rfl) (by decide) dcX7_copy_32 (fun z6 H locs hM hq => ?_)
  refine lv_aload_n hx hb dcX7_copy_35 rfl (lv_at hl 1 rfl) ?_
  refine vgX7_15 hx hb hT hown hK hM hr1 dcX7_copy_36 ?_
  refine lv_iconst (v := 0) hx hb dcX7_copy_39 (by decide) ?_
  refine lv_aload_n hx hb dcX7_copy_40 rfl (lv_at hl 0 rfl) ?_
  refine vgX7_15 hx hb hT hown hK hM hr0 dcX7_copy_41 ?_
  refine lv_iconst (v := 0) hx hb dcX7_copy_44 (by decide) ?_
  refine lv_iconst (v := 2) hx hb dcX7_copy_45 (by decide) ?_
  refine lv_aload_n hx hb dcX7_copy_46 rfl (lv_at hl 0 rfl) ?_
  refine vgX7_39 hx hb hT hown hK hM hr0 hq dcX7_copy_47 (fun v7 hq => ?_)
  refine lv_imul hx hb dcX7_copy_50 ?_
  refine uw_cpI cX_ok hU hx hb (by rw [hml]; exact hl.1.symm) hown (hT _ xq_129) (hT _ xq_130) (hT _ xq_131) (hT _ xq_132) hK hM (cr_X7_1 hr1) (cr_X7_1 hr0) hq (Nat.le_of_ble_eq_true rfl) (by decide) dcX7_copy_51 (fun z8 H locs hM hq => ?_)
  refine lv_aload_n hx hb dcX7_copy_54 rfl (lv_at hl 1 rfl) ?_
  refine vgX7_18 hx hb hT hown hK hM hr1 dcX7_copy_55 ?_
  refine lv_iconst (v := 0) hx hb dcX7_copy_58 (by decide) ?_
  refine lv_aload_n hx hb dcX7_copy_59 rfl (lv_at hl 0 rfl) ?_
  refine vgX7_18 hx hb hT hown hK hM hr0 dcX7_copy_60 ?_
  refine lv_iconst (v := 0) hx hb dcX7_copy_63 (by decide) ?_
  refine lv_aload_n hx hb dcX7_copy_64 rfl (lv_at hl 0 rfl) ?_
  refine vgX7_39 hx hb hT hown hK hM hr0 hq dcX7_copy_65 (fun v9 hq => ?_)
  refine uw_cpI cX_ok hU hx hb (by rw [hml]; exact hl.1.symm) hown (hT _ xq_129) (hT _ xq_130) (hT _ xq_131) (hT _ xq_132) hK hM (cr_X7_2 hr1) (cr_X7_2 hr0) hq (Nat.le_of_ble_eq_true rfl) (by decide) dcX7_copy_68 (fun z10 H locs hM hq => ?_)
  exact cw_vret hx hb hr hlocks hM hq hQQ dcX7_copy_71
theorem dcX7_writhe_0 : decode cX7_writhe 0 = .ok (.iconst 0, 1) := by decide +kernel
theorem dcX7_writhe_1 : decode cX7_writhe 1 = .ok (.istore_n 1, 1) := by decide +kernel
theorem dcX7_writhe_2 : decode cX7_writhe 2 = .ok (.iconst 0, 1) := by decide +kernel
theorem dcX7_writhe_3 : decode cX7_writhe 3 = .ok (.istore_n 2, 1) := by decide +kernel
theorem dcX7_writhe_4 : decode cX7_writhe 4 = .ok (.iload_n 2, 1) := by decide +kernel
theorem dcX7_writhe_5 : decode cX7_writhe 5 = .ok (.aload_n 0, 1) := by decide +kernel
theorem dcX7_writhe_6 : decode cX7_writhe 6 = .ok (.getfield 39, 3) := by decide +kernel
theorem dcX7_writhe_9 : decode cX7_writhe 9 = .ok (.if_icmp .ge 18, 3) := by decide +kernel
theorem dcX7_writhe_12 : decode cX7_writhe 12 = .ok (.iload_n 1, 1) := by decide +kernel
theorem dcX7_writhe_13 : decode cX7_writhe 13 = .ok (.aload_n 0, 1) := by decide +kernel
theorem dcX7_writhe_14 : decode cX7_writhe 14 = .ok (.getfield 18, 3) := by decide +kernel
theorem dcX7_writhe_17 : decode cX7_writhe 17 = .ok (.iload_n 2, 1) := by decide +kernel
theorem dcX7_writhe_18 : decode cX7_writhe 18 = .ok (.iaload, 1) := by decide +kernel
theorem dcX7_writhe_19 : decode cX7_writhe 19 = .ok (.iadd, 1) := by decide +kernel
theorem dcX7_writhe_20 : decode cX7_writhe 20 = .ok (.istore_n 1, 1) := by decide +kernel
theorem dcX7_writhe_21 : decode cX7_writhe 21 = .ok (.iinc 2 1, 3) := by decide +kernel
theorem dcX7_writhe_24 : decode cX7_writhe 24 = .ok (.goto (-20), 3) := by decide +kernel
theorem dcX7_writhe_27 : decode cX7_writhe 27 = .ok (.iload_n 1, 1) := by decide +kernel
theorem dcX7_writhe_28 : decode cX7_writhe 28 = .ok (.ireturn, 1) := by decide +kernel
def cm_X7_writhe_0 (vl : Nat → Nat) (K : Nat) (go : Nat → Int32 → Int32 → Nat → ow_MS → Option (Int32 × ow_MS)) (x1 : Int32) (x2 : Int32) (r0 : Nat) (z : ow_MS) : Option (Int32 × ow_MS) :=
 go 1 0 0 r0 z
def cm_X7_writhe_1 (vl : Nat → Nat) (K : Nat) (go : Nat → Int32 → Int32 → Nat → ow_MS → Option (Int32 × ow_MS)) (x1 : Int32) (x2 : Int32) (r0 : Nat) (z : ow_MS) : Option (Int32 × ow_MS) :=
 rdF z (r0 + 8) fun v1 => (if v1 ≤ x2 then some (x1, z)
 else crI (cX vl) z (r0 + 3) x2 fun v2 => go 1 (x1 + v2) (x2 + 1) r0 z)
def cb_X7_writhe (vl : Nat → Nat) (K : Nat) (go : Nat → Int32 → Int32 → Nat → ow_MS → Option (Int32 × ow_MS)) (L : Nat) (x1 : Int32) (x2 : Int32) (r0 : Nat) (z : ow_MS) : Option (Int32 × ow_MS) := match L with
  | 0 => cm_X7_writhe_0 vl K go x1 x2 r0 z
  | 1 => cm_X7_writhe_1 vl K go x1 x2 r0 z
  | _ => none
def c_X7_writhe (vl : Nat → Nat) (K : Nat) : Nat → Nat → Int32 → Int32 → Nat → ow_MS → Option (Int32 × ow_MS)
  | 0 => fun _ _ _ _ _ => none
  | k + 1 => cb_X7_writhe vl K (c_X7_writhe vl K k)
def ce_X7_writhe (vl : Nat → Nat) (K : Nat) (r0 : Nat) (z : ow_MS) : Option (Int32 × ow_MS) := c_X7_writhe vl K K 0 0 0 r0 z
abbrev wc_X7_writhe : List Cond := .code yX7_writhe cX7_writhe 3 (some .int) :: wC
theorem cdd_X7_writhe : yX7_writhe.cls = RX7 ∧ yX7_writhe.cls ≠ "java/lang/invoke/MethodHandle" ∧ yX7_writhe.cls ≠ "java/lang/invoke/VarHandle" ∧ (parseMethodDescriptor yX7_writhe.desc).map (fun d => d.parameters.length) = some 0 := by decide +kernel
set_option maxHeartbeats 4000000 in
set_option maxRecDepth 100000 in
theorem kc_X7_writhe (l : Launch) (D : va_G) (q : Nat → ClassId) (vl u : Nat → Nat) (hU0 : tw_inj (cX vl) u) (K : Nat) (r0 : Nat) (hr0 : cw_X7 r0) (z z1 : ow_MS) (r : Int32) (hq : ce_X7_writhe vl K r0 z = some (r, z1)) : Met l yX7_writhe wc_X7_writhe ({ frames := 0, cells := 0, slots := 0, locals := 0 } : Room) (va_Pc [.ref (u r0)] (cw_pre D q vl u z)) (va_Qi (fun x (_ : Unit) => x = r) (fun _ t => va_P D vwCl (uw (cX vl) q u z1) t.heap) (tw_A (cX vl) u)) 0 0 (tw_A (cX vl) u) := by
  refine Met.ofW (cc := cX7_writhe) (maxL := 3) (ret := (some .int)) (by decide) rfl ?_
  intro p e s m args below meth c s₁ B hml hv
  obtain ⟨rfl, hP, hK⟩ := hv
  have hx := B.exec
  have hb := B.bytes
  have hr := B.returns
  have hts := atoms_spec (ws := wc_X7_writhe) B.pre
  have hT : ∀ w ∈ wC, w.before ([.ref (u r0)] : List Value).toArray s = true := fun w h => hts w (List.mem_cons_of_mem _ h)
  have hown : s.vm.findClass RX7 = some m.cls := findClass_of_methodNamed B.named
  have hlocks := B.notSynchronized
  have hU : uw_inj (cX vl) u (tw_A (cX vl) u) := ⟨hU0, fun h hh => ⟨h, hh, rfl⟩⟩
  have hM : uw_M D vwCl (cX vl) q (tw_A (cX vl) u) s.heap u z s.heap [] := ⟨hP, va_S.rf⟩
  have hl := lv_entry ([.ref (u r0)]) (n := 3) (Nat.le_of_ble_eq_true rfl)
  rw [lg_entry_eq]
  generalize (lg_sl ([.ref (u r0)]) ++ List.replicate (3 - (lg_sl ([.ref (u r0)])).length) Slot.unset).toArray = ls at hl ⊢
  have hl : lv_has ls 3 [(0, .ref (u r0))] := hl
  refine ow_named (fun QQ hQQ => ?_)
  generalize ([.ref (u r0)] : List Value).toArray = args at hts hT hQQ ⊢
  have key : ∀ k : Nat, (∀ (x1 : Int32) (x2 : Int32) (r0 : Nat) (z : ow_MS) (H : Heap) (locs : List Loc) (ls : Array Slot), cw_X7 r0 → uw_M D vwCl (cX vl) q (tw_A (cX vl) u) s.heap u z H locs → lv_has ls 3 [(0, .ref (u r0))] → c_X7_writhe vl K k 0 x1 x2 r0 z = some (r, z1) → W p l e ({ frames := 0, cells := 0, slots := 0, locals := 0 } : Room) s m args below meth c H locs 0 0 QQ (F0 m 0 ls [])) ∧ (∀ (x1 : Int32) (x2 : Int32) (r0 : Nat) (z : ow_MS) (H : Heap) (locs : List Loc) (ls : Array Slot), cw_X7 r0 → uw_M D vwCl (cX vl) q (tw_A (cX vl) u) s.heap u z H locs → lv_has ls 3 [(0, .ref (u r0)), (1, .int x1), (2, .int x2)] → c_X7_writhe vl K k 1 x1 x2 r0 z = some (r, z1) → W p l e ({ frames := 0, cells := 0, slots := 0, locals := 0 } : Room) s m args below meth c H locs 0 0 QQ (F0 m 4 ls [])) := by
    intro k
    induction k with
    | zero => exact ⟨fun _ _ _ _ _ _ _ _ _ _ hq => cw_no hq, fun _ _ _ _ _ _ _ _ _ _ hq => cw_no hq⟩
    | succ k ih =>
      obtain ⟨ih_0, ih_1⟩ := ih
      refine ⟨?_, ?_⟩
      · intro x1 x2 r0 z H locs ls hr0 hM hl hq
        have hq : cm_X7_writhe_0 vl K (c_X7_writhe vl K k) x1 x2 r0 z = some (r, z1) := hq
        unfold cm_X7_writhe_0 at hq
        refine lv_iconst (v := 0) hx hb dcX7_writhe_0 (by decide) ?_
        refine lv_istore_n (lv' := [(1, .int 0), (0, .ref (u r0))]) hx hb dcX7_writhe_1 rfl hl (by decide) rfl (fun ls hl => ?_)
        refine lv_iconst (v := 0) hx hb dcX7_writhe_2 (by decide) ?_
        refine lv_istore_n (lv' := [(2, .int 0), (1, .int 0), (0, .ref (u r0))]) hx hb dcX7_writhe_3 rfl hl (by decide) rfl (fun ls hl => ?_)
        exact ih_1 0 0 r0 z H locs ls hr0 hM (lv_sub hl [2, 1, 0] rfl) hq
      · intro x1 x2 r0 z H locs ls hr0 hM hl hq
        have hq : cm_X7_writhe_1 vl K (c_X7_writhe vl K k) x1 x2 r0 z = some (r, z1) := hq
        unfold cm_X7_writhe_1 at hq
        refine lv_iload_n hx hb dcX7_writhe_4 rfl (lv_at hl 2 rfl) ?_
        refine lv_aload_n hx hb dcX7_writhe_5 rfl (lv_at hl 0 rfl) ?_
        refine vgX7_39 hx hb hT hown hK hM hr0 hq dcX7_writhe_6 (fun v1 hq => ?_)
        refine lv_icmp_ge (tgt := 27) hx hb dcX7_writhe_9 (by decide) (fun hc => ?_) (fun hc => ?_)
        · have hq := tw_it hq hc
          refine lv_iload_n hx hb dcX7_writhe_27 rfl (lv_at hl 1 rfl) ?_
          exact cw_iret hx hb hr hlocks hM hq hQQ dcX7_writhe_28
        · have hq := tw_if hq hc
          refine lv_iload_n hx hb dcX7_writhe_12 rfl (lv_at hl 1 rfl) ?_
          refine lv_aload_n hx hb dcX7_writhe_13 rfl (lv_at hl 0 rfl) ?_
          refine vgX7_18 hx hb hT hown hK hM hr0 dcX7_writhe_14 ?_
          refine lv_iload_n hx hb dcX7_writhe_17 rfl (lv_at hl 2 rfl) ?_
          refine uw_iald cX_ok hx hb hK hM (cr_X7_2 hr0) hq dcX7_writhe_18 (fun v2 hq => ?_)
          refine lv_iadd hx hb dcX7_writhe_19 ?_
          refine lv_istore_n (lv' := [(1, .int (x1 + v2)), (0, .ref (u r0)), (2, .int x2)]) hx hb dcX7_writhe_20 rfl hl (by decide) rfl (fun ls hl => ?_)
          refine lv_iinc (v := (x2 + 1)) (lv' := [(2, .int (x2 + 1)), (1, .int (x1 + v2)), (0, .ref (u r0))]) hx hb dcX7_writhe_21 hl (k := 2) rfl rfl (by decide) rfl (fun ls hl => ?_)
          refine lv_goto (tgt := 4) hx hb dcX7_writhe_24 (by decide) ?_
          exact ih_1 (x1 + v2) (x2 + 1) r0 z H locs ls hr0 hM (lv_sub hl [2, 1, 0] rfl) hq
  exact (key K).1 0 0 r0 z s.heap [] ls hr0 hM (lv_sub hl [0] rfl) hq
theorem dcX1_rankAt_0 : decode cX1_rankAt 0 = .ok (.iload_n 1, 1) := dw_at cX1_rankAt_k0 (p := 0) rfl (by decide +kernel)
theorem dcX1_rankAt_1 : decode cX1_rankAt 1 = .ok (.i2l, 1) := dw_at cX1_rankAt_k0 (p := 1) rfl (by decide +kernel)
theorem dcX1_rankAt_2 : decode cX1_rankAt 2 = .ok (.aload_n 0, 1) := dw_at cX1_rankAt_k0 (p := 2) rfl (by decide +kernel)
theorem dcX1_rankAt_3 : decode cX1_rankAt 3 = .ok (.getfield 93, 3) := dw_at cX1_rankAt_k0 (p := 3) rfl (by decide +kernel)
theorem dcX1_rankAt_6 : decode cX1_rankAt 6 = .ok (.i2l, 1) := dw_at cX1_rankAt_k0 (p := 6) rfl (by decide +kernel)
theorem dcX1_rankAt_7 : decode cX1_rankAt 7 = .ok (.ladd, 1) := dw_at cX1_rankAt_k0 (p := 7) rfl (by decide +kernel)
theorem dcX1_rankAt_8 : decode cX1_rankAt 8 = .ok (.lstore_n 3, 1) := dw_at cX1_rankAt_k0 (p := 8) rfl (by decide +kernel)
theorem dcX1_rankAt_9 : decode cX1_rankAt 9 = .ok (.iload_n 2, 1) := dw_at cX1_rankAt_k0 (p := 9) rfl (by decide +kernel)
theorem dcX1_rankAt_10 : decode cX1_rankAt 10 = .ok (.i2l, 1) := dw_at cX1_rankAt_k0 (p := 10) rfl (by decide +kernel)
theorem dcX1_rankAt_11 : decode cX1_rankAt 11 = .ok (.aload_n 0, 1) := dw_at cX1_rankAt_k0 (p := 11) rfl (by decide +kernel)
theorem dcX1_rankAt_12 : decode cX1_rankAt 12 = .ok (.getfield 88, 3) := dw_at cX1_rankAt_k0 (p := 12) rfl (by decide +kernel)
theorem dcX1_rankAt_15 : decode cX1_rankAt 15 = .ok (.i2l, 1) := dw_at cX1_rankAt_k0 (p := 15) rfl (by decide +kernel)
theorem dcX1_rankAt_16 : decode cX1_rankAt 16 = .ok (.lsub, 1) := dw_at cX1_rankAt_k0 (p := 16) rfl (by decide +kernel)
theorem dcX1_rankAt_17 : decode cX1_rankAt 17 = .ok (.aload_n 0, 1) := dw_at cX1_rankAt_k0 (p := 17) rfl (by decide +kernel)
theorem dcX1_rankAt_18 : decode cX1_rankAt 18 = .ok (.getfield 93, 3) := dw_at cX1_rankAt_k0 (p := 18) rfl (by decide +kernel)
theorem dcX1_rankAt_21 : decode cX1_rankAt 21 = .ok (.i2l, 1) := dw_at cX1_rankAt_k0 (p := 21) rfl (by decide +kernel)
theorem dcX1_rankAt_22 : decode cX1_rankAt 22 = .ok (.ladd, 1) := dw_at cX1_rankAt_k0 (p := 22) rfl (by decide +kernel)
theorem dcX1_rankAt_23 : decode cX1_rankAt 23 = .ok (.ldc2_w 115, 3) := dw_at cX1_rankAt_k0 (p := 23) rfl (by decide +kernel)
theorem dcX1_rankAt_26 : decode cX1_rankAt 26 = .ok (.lsub, 1) := dw_at cX1_rankAt_k1 (p := 0) rfl (by decide +kernel)
theorem dcX1_rankAt_27 : decode cX1_rankAt 27 = .ok (.lstore 5, 2) := dw_at cX1_rankAt_k1 (p := 1) rfl (by decide +kernel)
theorem dcX1_rankAt_29 : decode cX1_rankAt 29 = .ok (.lload_n 3, 1) := dw_at cX1_rankAt_k1 (p := 3) rfl (by decide +kernel)
theorem dcX1_rankAt_30 : decode cX1_rankAt 30 = .ok (.lconst 0, 1) := dw_at cX1_rankAt_k1 (p := 4) rfl (by decide +kernel)
theorem dcX1_rankAt_31 : decode cX1_rankAt 31 = .ok (.lcmp, 1) := dw_at cX1_rankAt_k1 (p := 5) rfl (by decide +kernel)
theorem dcX1_rankAt_32 : decode cX1_rankAt 32 = .ok (.ifCond .lt 27, 3) := dw_at cX1_rankAt_k1 (p := 6) rfl (by decide +kernel)
theorem dcX1_rankAt_35 : decode cX1_rankAt 35 = .ok (.lload_n 3, 1) := dw_at cX1_rankAt_k1 (p := 9) rfl (by decide +kernel)
theorem dcX1_rankAt_36 : decode cX1_rankAt 36 = .ok (.ldc2_w 117, 3) := dw_at cX1_rankAt_k1 (p := 10) rfl (by decide +kernel)
theorem dcX1_rankAt_39 : decode cX1_rankAt 39 = .ok (.lcmp, 1) := dw_at cX1_rankAt_k1 (p := 13) rfl (by decide +kernel)
theorem dcX1_rankAt_40 : decode cX1_rankAt 40 = .ok (.ifCond .gt 19, 3) := dw_at cX1_rankAt_k1 (p := 14) rfl (by decide +kernel)
theorem dcX1_rankAt_43 : decode cX1_rankAt 43 = .ok (.lload 5, 2) := dw_at cX1_rankAt_k1 (p := 17) rfl (by decide +kernel)
theorem dcX1_rankAt_45 : decode cX1_rankAt 45 = .ok (.lconst 0, 1) := dw_at cX1_rankAt_k1 (p := 19) rfl (by decide +kernel)
theorem dcX1_rankAt_46 : decode cX1_rankAt 46 = .ok (.lcmp, 1) := dw_at cX1_rankAt_k1 (p := 20) rfl (by decide +kernel)
theorem dcX1_rankAt_47 : decode cX1_rankAt 47 = .ok (.ifCond .lt 12, 3) := dw_at cX1_rankAt_k1 (p := 21) rfl (by decide +kernel)
theorem dcX1_rankAt_50 : decode cX1_rankAt 50 = .ok (.lload 5, 2) := dw_at cX1_rankAt_k2 (p := 0) rfl (by decide +kernel)
theorem dcX1_rankAt_52 : decode cX1_rankAt 52 = .ok (.ldc2_w 119, 3) := dw_at cX1_rankAt_k2 (p := 2) rfl (by decide +kernel)
theorem dcX1_rankAt_55 : decode cX1_rankAt 55 = .ok (.lcmp, 1) := dw_at cX1_rankAt_k2 (p := 5) rfl (by decide +kernel)
theorem dcX1_rankAt_56 : decode cX1_rankAt 56 = .ok (.ifCond .lt 7, 3) := dw_at cX1_rankAt_k2 (p := 6) rfl (by decide +kernel)
theorem dcX1_rankAt_59 : decode cX1_rankAt 59 = .ok (.iconst 0, 1) := dw_at cX1_rankAt_k2 (p := 9) rfl (by decide +kernel)
theorem dcX1_rankAt_60 : decode cX1_rankAt 60 = .ok (.goto 17, 3) := dw_at cX1_rankAt_k2 (p := 10) rfl (by decide +kernel)
theorem dcX1_rankAt_63 : decode cX1_rankAt 63 = .ok (.aload_n 0, 1) := dw_at cX1_rankAt_k2 (p := 13) rfl (by decide +kernel)
theorem dcX1_rankAt_64 : decode cX1_rankAt 64 = .ok (.getfield 64, 3) := dw_at cX1_rankAt_k2 (p := 14) rfl (by decide +kernel)
theorem dcX1_rankAt_67 : decode cX1_rankAt 67 = .ok (.lload_n 3, 1) := dw_at cX1_rankAt_k2 (p := 17) rfl (by decide +kernel)
theorem dcX1_rankAt_68 : decode cX1_rankAt 68 = .ok (.ldc2_w 119, 3) := dw_at cX1_rankAt_k2 (p := 18) rfl (by decide +kernel)
theorem dcX1_rankAt_71 : decode cX1_rankAt 71 = .ok (.lmul, 1) := dw_at cX1_rankAt_k2 (p := 21) rfl (by decide +kernel)
theorem dcX1_rankAt_72 : decode cX1_rankAt 72 = .ok (.lload 5, 2) := dw_at cX1_rankAt_k2 (p := 22) rfl (by decide +kernel)
theorem dcX1_rankAt_74 : decode cX1_rankAt 74 = .ok (.ladd, 1) := dw_at cX1_rankAt_k2 (p := 24) rfl (by decide +kernel)
theorem dcX1_rankAt_75 : decode cX1_rankAt 75 = .ok (.l2i, 1) := dw_at cX1_rankAt_k2 (p := 25) rfl (by decide +kernel)
theorem dcX1_rankAt_76 : decode cX1_rankAt 76 = .ok (.iaload, 1) := dw_at cX1_rankAt_k2 (p := 26) rfl (by decide +kernel)
theorem dcX1_rankAt_77 : decode cX1_rankAt 77 = .ok (.ireturn, 1) := dw_at cX1_rankAt_k2 (p := 27) rfl (by decide +kernel)
def cm_X1_rankAt_0 (vl : Nat → Nat) (K : Nat) (go : Nat → Int32 → Int32 → Int64 → Int64 → Nat → ow_MS → Option (Int32 × ow_MS)) (x1 : Int32) (x2 : Int32) (w3 : Int64) (w5 : Int64) (r0 : Nat) (z : ow_MS) : Option (Int32 × ow_MS) :=
 rdF z (r0 + 20) fun v1 => rdF z (r0 + 19) fun v2 => rdF z (r0 + 20) fun v3 => (if (lg_cmp (x1.toInt64 + v1.toInt64) 0) < 0 then go 1 x1 x2 (x1.toInt64 + v1.toInt64) (((x2.toInt64 - v2.toInt64) + v3.toInt64) - (-20)) r0 z
 else (if 0 < (lg_cmp (x1.toInt64 + v1.toInt64) 8) then go 1 x1 x2 (x1.toInt64 + v1.toInt64) (((x2.toInt64 - v2.toInt64) + v3.toInt64) - (-20)) r0 z
 else (if (lg_cmp (((x2.toInt64 - v2.toInt64) + v3.toInt64) - (-20)) 0) < 0 then go 1 x1 x2 (x1.toInt64 + v1.toInt64) (((x2.toInt64 - v2.toInt64) + v3.toInt64) - (-20)) r0 z
 else (if (lg_cmp (((x2.toInt64 - v2.toInt64) + v3.toInt64) - (-20)) 56) < 0 then crI (cX vl) z (r0 + 18) ((((x1.toInt64 + v1.toInt64) * 56) + (((x2.toInt64 - v2.toInt64) + v3.toInt64) - (-20))).toInt32) fun v4 => some (v4, z)
 else go 1 x1 x2 (x1.toInt64 + v1.toInt64) (((x2.toInt64 - v2.toInt64) + v3.toInt64) - (-20)) r0 z))))
def cm_X1_rankAt_1 (vl : Nat → Nat) (K : Nat) (go : Nat → Int32 → Int32 → Int64 → Int64 → Nat → ow_MS → Option (Int32 × ow_MS)) (x1 : Int32) (x2 : Int32) (w3 : Int64) (w5 : Int64) (r0 : Nat) (z : ow_MS) : Option (Int32 × ow_MS) :=
 some (0, z)
def cb_X1_rankAt (vl : Nat → Nat) (K : Nat) (go : Nat → Int32 → Int32 → Int64 → Int64 → Nat → ow_MS → Option (Int32 × ow_MS)) (L : Nat) (x1 : Int32) (x2 : Int32) (w3 : Int64) (w5 : Int64) (r0 : Nat) (z : ow_MS) : Option (Int32 × ow_MS) := match L with
  | 0 => cm_X1_rankAt_0 vl K go x1 x2 w3 w5 r0 z
  | 1 => cm_X1_rankAt_1 vl K go x1 x2 w3 w5 r0 z
  | _ => none
def c_X1_rankAt (vl : Nat → Nat) (K : Nat) : Nat → Nat → Int32 → Int32 → Int64 → Int64 → Nat → ow_MS → Option (Int32 × ow_MS)
  | 0 => fun _ _ _ _ _ _ _ => none
  | k + 1 => cb_X1_rankAt vl K (c_X1_rankAt vl K k)
def ce_X1_rankAt (vl : Nat → Nat) (K : Nat) (r0 : Nat) (x1 : Int32) (x2 : Int32) (z : ow_MS) : Option (Int32 × ow_MS) := c_X1_rankAt vl K K 0 x1 x2 0 0 r0 z
abbrev wc_X1_rankAt : List Cond := .code yX1_rankAt cX1_rankAt 7 (some .int) :: wC
theorem cdd_X1_rankAt : yX1_rankAt.cls = RX1 ∧ yX1_rankAt.cls ≠ "java/lang/invoke/MethodHandle" ∧ yX1_rankAt.cls ≠ "java/lang/invoke/VarHandle" ∧ (parseMethodDescriptor yX1_rankAt.desc).map (fun d => d.parameters.length) = some 2 := by decide +kernel
set_option maxHeartbeats 4000000 in
set_option maxRecDepth 100000 in
theorem kc_X1_rankAt (l : Launch) (D : va_G) (q : Nat → ClassId) (vl u : Nat → Nat) (hU0 : tw_inj (cX vl) u) (K : Nat) (r0 : Nat) (x1 : Int32) (x2 : Int32) (hr0 : cw_X1 r0) (z z1 : ow_MS) (r : Int32) (hq : ce_X1_rankAt vl K r0 x1 x2 z = some (r, z1)) : Met l yX1_rankAt wc_X1_rankAt ({ frames := 0, cells := 0, slots := 0, locals := 0 } : Room) (va_Pc [.ref (u r0), .int x1, .int x2] (cw_pre D q vl u z)) (va_Qi (fun x (_ : Unit) => x = r) (fun _ t => va_P D vwCl (uw (cX vl) q u z1) t.heap) (tw_A (cX vl) u)) 0 0 (tw_A (cX vl) u) := by
  refine Met.ofW (cc := cX1_rankAt) (maxL := 7) (ret := (some .int)) (by decide) rfl ?_
  intro p e s m args below meth c s₁ B hml hv
  obtain ⟨rfl, hP, hK⟩ := hv
  have hx := B.exec
  have hb := B.bytes
  have hr := B.returns
  have hts := atoms_spec (ws := wc_X1_rankAt) B.pre
  have hT : ∀ w ∈ wC, w.before ([.ref (u r0), .int x1, .int x2] : List Value).toArray s = true := fun w h => hts w (List.mem_cons_of_mem _ h)
  have hown : s.vm.findClass RX1 = some m.cls := findClass_of_methodNamed B.named
  have hlocks := B.notSynchronized
  have hU : uw_inj (cX vl) u (tw_A (cX vl) u) := ⟨hU0, fun h hh => ⟨h, hh, rfl⟩⟩
  have hM : uw_M D vwCl (cX vl) q (tw_A (cX vl) u) s.heap u z s.heap [] := ⟨hP, va_S.rf⟩
  have hl := lv_entry ([.ref (u r0), .int x1, .int x2]) (n := 7) (Nat.le_of_ble_eq_true rfl)
  rw [lg_entry_eq]
  generalize (lg_sl ([.ref (u r0), .int x1, .int x2]) ++ List.replicate (7 - (lg_sl ([.ref (u r0), .int x1, .int x2])).length) Slot.unset).toArray = ls at hl ⊢
  have hl : lv_has ls 7 [(0, .ref (u r0)), (1, .int x1), (2, .int x2)] := hl
  refine ow_named (fun QQ hQQ => ?_)
  generalize ([.ref (u r0), .int x1, .int x2] : List Value).toArray = args at hts hT hQQ ⊢
  have key : ∀ k : Nat, (∀ (x1 : Int32) (x2 : Int32) (w3 : Int64) (w5 : Int64) (r0 : Nat) (z : ow_MS) (H : Heap) (locs : List Loc) (ls : Array Slot), cw_X1 r0 → uw_M D vwCl (cX vl) q (tw_A (cX vl) u) s.heap u z H locs → lv_has ls 7 [(0, .ref (u r0)), (1, .int x1), (2, .int x2)] → c_X1_rankAt vl K k 0 x1 x2 w3 w5 r0 z = some (r, z1) → W p l e ({ frames := 0, cells := 0, slots := 0, locals := 0 } : Room) s m args below meth c H locs 0 0 QQ (F0 m 0 ls [])) ∧ (∀ (x1 : Int32) (x2 : Int32) (w3 : Int64) (w5 : Int64) (r0 : Nat) (z : ow_MS) (H : Heap) (locs : List Loc) (ls : Array Slot), cw_X1 r0 → uw_M D vwCl (cX vl) q (tw_A (cX vl) u) s.heap u z H locs → lv_has ls 7 [(0, .ref (u r0)), (1, .int x1), (2, .int x2), (3, .long w3), (5, .long w5)] → c_X1_rankAt vl K k 1 x1 x2 w3 w5 r0 z = some (r, z1) → W p l e ({ frames := 0, cells := 0, slots := 0, locals := 0 } : Room) s m args below meth c H locs 0 0 QQ (F0 m 59 ls [])) := by
    intro k
    induction k with
    | zero => exact ⟨fun _ _ _ _ _ _ _ _ _ _ _ _ hq => cw_no hq, fun _ _ _ _ _ _ _ _ _ _ _ _ hq => cw_no hq⟩
    | succ k ih =>
      obtain ⟨ih_0, ih_1⟩ := ih
      refine ⟨?_, ?_⟩
      · intro x1 x2 w3 w5 r0 z H locs ls hr0 hM hl hq
        have hq : cm_X1_rankAt_0 vl K (c_X1_rankAt vl K k) x1 x2 w3 w5 r0 z = some (r, z1) := hq
        unfold cm_X1_rankAt_0 at hq
        refine lv_iload_n hx hb dcX1_rankAt_0 rfl (lv_at hl 1 rfl) ?_
        refine lv_i2l hx hb dcX1_rankAt_1 rfl ?_
        refine lv_aload_n hx hb dcX1_rankAt_2 rfl (lv_at hl 0 rfl) ?_
        refine vgX1_93 hx hb hT hown hK hM hr0 hq dcX1_rankAt_3 (fun v1 hq => ?_)
        refine lv_i2l hx hb dcX1_rankAt_6 rfl ?_
        refine lv_ladd hx hb dcX1_rankAt_7 ?_
        refine lv_lstore_n (lv' := [(3, .long (x1.toInt64 + v1.toInt64)), (0, .ref (u r0)), (1, .int x1), (2, .int x2)]) hx hb dcX1_rankAt_8 rfl hl (by decide) rfl (fun ls hl => ?_)
        refine lv_iload_n hx hb dcX1_rankAt_9 rfl (lv_at hl 3 rfl) ?_
        refine lv_i2l hx hb dcX1_rankAt_10 rfl ?_
        refine lv_aload_n hx hb dcX1_rankAt_11 rfl (lv_at hl 1 rfl) ?_
        refine vgX1_88 hx hb hT hown hK hM hr0 hq dcX1_rankAt_12 (fun v2 hq => ?_)
        refine lv_i2l hx hb dcX1_rankAt_15 rfl ?_
        refine lv_lsub hx hb dcX1_rankAt_16 ?_
        refine lv_aload_n hx hb dcX1_rankAt_17 rfl (lv_at hl 1 rfl) ?_
        refine vgX1_93 hx hb hT hown hK hM hr0 hq dcX1_rankAt_18 (fun v3 hq => ?_)
        refine lv_i2l hx hb dcX1_rankAt_21 rfl ?_
        refine lv_ladd hx hb dcX1_rankAt_22 ?_
        refine lv_ldc2 (v := (-20)) hx hb hown (hT _ xq_266) dcX1_rankAt_23 ?_
        refine lv_lsub hx hb dcX1_rankAt_26 ?_
        refine lv_lstore (lv' := [(5, .long (((x2.toInt64 - v2.toInt64) + v3.toInt64) - (-20))), (3, .long (x1.toInt64 + v1.toInt64)), (0, .ref (u r0)), (1, .int x1), (2, .int x2)]) hx hb dcX1_rankAt_27 hl (by decide) rfl (fun ls hl => ?_)
        refine lv_lload_n hx hb dcX1_rankAt_29 rfl (lv_at hl 1 rfl) ?_
        refine lv_lconst (v := 0) hx hb dcX1_rankAt_30 rfl ?_
        refine W.lcmp hx hb dcX1_rankAt_31 ?_
        refine lv_if_lt (tgt := 59) hx hb dcX1_rankAt_32 (by decide) (fun hc => ?_) (fun hc => ?_)
        · have hq := tw_it hq hc
          exact ih_1 x1 x2 (x1.toInt64 + v1.toInt64) (((x2.toInt64 - v2.toInt64) + v3.toInt64) - (-20)) r0 z H locs ls hr0 hM (lv_sub hl [2, 3, 4, 1, 0] rfl) hq
        · have hq := tw_if hq hc
          refine lv_lload_n hx hb dcX1_rankAt_35 rfl (lv_at hl 1 rfl) ?_
          refine lv_ldc2 (v := 8) hx hb hown (hT _ xq_267) dcX1_rankAt_36 ?_
          refine W.lcmp hx hb dcX1_rankAt_39 ?_
          refine lv_if_gt (tgt := 59) hx hb dcX1_rankAt_40 (by decide) (fun hc => ?_) (fun hc => ?_)
          · have hq := tw_it hq hc
            exact ih_1 x1 x2 (x1.toInt64 + v1.toInt64) (((x2.toInt64 - v2.toInt64) + v3.toInt64) - (-20)) r0 z H locs ls hr0 hM (lv_sub hl [2, 3, 4, 1, 0] rfl) hq
          · have hq := tw_if hq hc
            refine lv_lload hx hb dcX1_rankAt_43 (lv_at hl 0 rfl) ?_
            refine lv_lconst (v := 0) hx hb dcX1_rankAt_45 rfl ?_
            refine W.lcmp hx hb dcX1_rankAt_46 ?_
            refine lv_if_lt (tgt := 59) hx hb dcX1_rankAt_47 (by decide) (fun hc => ?_) (fun hc => ?_)
            · have hq := tw_it hq hc
              exact ih_1 x1 x2 (x1.toInt64 + v1.toInt64) (((x2.toInt64 - v2.toInt64) + v3.toInt64) - (-20)) r0 z H locs ls hr0 hM (lv_sub hl [2, 3, 4, 1, 0] rfl) hq
            · have hq := tw_if hq hc
              refine lv_lload hx hb dcX1_rankAt_50 (lv_at hl 0 rfl) ?_
              refine lv_ldc2 (v := 56) hx hb hown (hT _ xq_268) dcX1_rankAt_52 ?_
              refine W.lcmp hx hb dcX1_rankAt_55 ?_
              refine lv_if_lt (tgt := 63) hx hb dcX1_rankAt_56 (by decide) (fun hc => ?_) (fun hc => ?_)
              · have hq := tw_it hq hc
                refine lv_aload_n hx hb dcX1_rankAt_63 rfl (lv_at hl 2 rfl) ?_
                refine vgX1_64 hx hb hT hown hK hM hr0 dcX1_rankAt_64 ?_
                refine lv_lload_n hx hb dcX1_rankAt_67 rfl (lv_at hl 1 rfl) ?_
                refine lv_ldc2 (v := 56) hx hb hown (hT _ xq_268) dcX1_rankAt_68 ?_
                refine lv_lmul hx hb dcX1_rankAt_71 ?_
                refine lv_lload hx hb dcX1_rankAt_72 (lv_at hl 0 rfl) ?_
                refine lv_ladd hx hb dcX1_rankAt_74 ?_
                refine lv_l2i hx hb dcX1_rankAt_75 rfl ?_
                refine uw_iald cX_ok hx hb hK hM (cr_X1_17 hr0) hq dcX1_rankAt_76 (fun v4 hq => ?_)
                exact cw_iret hx hb hr hlocks hM hq hQQ dcX1_rankAt_77
              · have hq := tw_if hq hc
                exact ih_1 x1 x2 (x1.toInt64 + v1.toInt64) (((x2.toInt64 - v2.toInt64) + v3.toInt64) - (-20)) r0 z H locs ls hr0 hM (lv_sub hl [2, 3, 4, 1, 0] rfl) hq
      · intro x1 x2 w3 w5 r0 z H locs ls hr0 hM hl hq
        have hq : cm_X1_rankAt_1 vl K (c_X1_rankAt vl K k) x1 x2 w3 w5 r0 z = some (r, z1) := hq
        unfold cm_X1_rankAt_1 at hq
        refine lv_iconst (v := 0) hx hb dcX1_rankAt_59 (by decide) ?_
        refine lv_goto (tgt := 77) hx hb dcX1_rankAt_60 (by decide) ?_
        exact cw_iret hx hb hr hlocks hM hq hQQ dcX1_rankAt_77
  exact (key K).1 x1 x2 0 0 r0 z s.heap [] ls hr0 hM (lv_sub hl [0, 1, 2] rfl) hq
theorem dcX2_firstCell_0 : decode cX2_firstCell 0 = .ok (.iconst 4, 1) := by decide +kernel
theorem dcX2_firstCell_1 : decode cX2_firstCell 1 = .ok (.iconst 2, 1) := by decide +kernel
theorem dcX2_firstCell_2 : decode cX2_firstCell 2 = .ok (.iload_n 1, 1) := by decide +kernel
theorem dcX2_firstCell_3 : decode cX2_firstCell 3 = .ok (.iconst 1, 1) := by decide +kernel
theorem dcX2_firstCell_4 : decode cX2_firstCell 4 = .ok (.iand, 1) := by decide +kernel
theorem dcX2_firstCell_5 : decode cX2_firstCell 5 = .ok (.imul, 1) := by decide +kernel
theorem dcX2_firstCell_6 : decode cX2_firstCell 6 = .ok (.iadd, 1) := by decide +kernel
theorem dcX2_firstCell_7 : decode cX2_firstCell 7 = .ok (.aload_n 0, 1) := by decide +kernel
theorem dcX2_firstCell_8 : decode cX2_firstCell 8 = .ok (.getfield 101, 3) := by decide +kernel
theorem dcX2_firstCell_11 : decode cX2_firstCell 11 = .ok (.iload_n 1, 1) := by decide +kernel
theorem dcX2_firstCell_12 : decode cX2_firstCell 12 = .ok (.iconst 1, 1) := by decide +kernel
theorem dcX2_firstCell_13 : decode cX2_firstCell 13 = .ok (.ishr, 1) := by decide +kernel
theorem dcX2_firstCell_14 : decode cX2_firstCell 14 = .ok (.iaload, 1) := by decide +kernel
theorem dcX2_firstCell_15 : decode cX2_firstCell 15 = .ok (.ifCond .ge 7, 3) := by decide +kernel
theorem dcX2_firstCell_18 : decode cX2_firstCell 18 = .ok (.iconst 1, 1) := by decide +kernel
theorem dcX2_firstCell_19 : decode cX2_firstCell 19 = .ok (.goto 4, 3) := by decide +kernel
theorem dcX2_firstCell_22 : decode cX2_firstCell 22 = .ok (.iconst 0, 1) := by decide +kernel
theorem dcX2_firstCell_23 : decode cX2_firstCell 23 = .ok (.iadd, 1) := by decide +kernel
theorem dcX2_firstCell_24 : decode cX2_firstCell 24 = .ok (.ireturn, 1) := by decide +kernel
def cm_X2_firstCell_0 (vl : Nat → Nat) (K : Nat) (x1 : Int32) (r0 : Nat) (z : ow_MS) : Option (Int32 × ow_MS) :=
 crI (cX vl) z (r0 + 3) ((x1 : Int32) >>> ((1 : Int32) &&& 31)) fun v1 => (if 0 ≤ v1 then some (((4 + (2 * (x1 &&& 1))) + 0), z)
 else some (((4 + (2 * (x1 &&& 1))) + 1), z))
def ce_X2_firstCell (vl : Nat → Nat) (K : Nat) (r0 : Nat) (x1 : Int32) (z : ow_MS) : Option (Int32 × ow_MS) := cm_X2_firstCell_0 vl K x1 r0 z
abbrev wc_X2_firstCell : List Cond := .code yX2_firstCell cX2_firstCell 2 (some .int) :: wC
theorem cdd_X2_firstCell : yX2_firstCell.cls ≠ "java/lang/invoke/MethodHandle" ∧ yX2_firstCell.cls ≠ "java/lang/invoke/VarHandle" ∧ (parseMethodDescriptor yX2_firstCell.desc).map (fun d => d.parameters.length) = some 2 := by decide +kernel
set_option maxHeartbeats 4000000 in
set_option maxRecDepth 100000 in
theorem kc_X2_firstCell (l : Launch) (D : va_G) (q : Nat → ClassId) (vl u : Nat → Nat) (hU0 : tw_inj (cX vl) u) (K : Nat) (r0 : Nat) (x1 : Int32) (hr0 : cw_X7 r0) (z z1 : ow_MS) (r : Int32) (hq : ce_X2_firstCell vl K r0 x1 z = some (r, z1)) : Met l yX2_firstCell wc_X2_firstCell ({ frames := 0, cells := 0, slots := 0, locals := 0 } : Room) (va_Pc [.ref (u r0), .int x1] (cw_pre D q vl u z)) (va_Qi (fun x (_ : Unit) => x = r) (fun _ t => va_P D vwCl (uw (cX vl) q u z1) t.heap) (tw_A (cX vl) u)) 0 0 (tw_A (cX vl) u) := by
  refine Met.ofW (cc := cX2_firstCell) (maxL := 2) (ret := (some .int)) (by decide) rfl ?_
  intro p e s m args below meth c s₁ B hml hv
  obtain ⟨rfl, hP, hK⟩ := hv
  have hx := B.exec
  have hb := B.bytes
  have hr := B.returns
  have hts := atoms_spec (ws := wc_X2_firstCell) B.pre
  have hT : ∀ w ∈ wC, w.before ([.ref (u r0), .int x1] : List Value).toArray s = true := fun w h => hts w (List.mem_cons_of_mem _ h)
  have hown : s.vm.findClass RX2 = some m.cls := findClass_of_methodNamed B.named
  have hlocks := B.notSynchronized
  have hU : uw_inj (cX vl) u (tw_A (cX vl) u) := ⟨hU0, fun h hh => ⟨h, hh, rfl⟩⟩
  have hM : uw_M D vwCl (cX vl) q (tw_A (cX vl) u) s.heap u z s.heap [] := ⟨hP, va_S.rf⟩
  have hl := lv_entry ([.ref (u r0), .int x1]) (n := 2) (Nat.le_of_ble_eq_true rfl)
  rw [lg_entry_eq]
  generalize (lg_sl ([.ref (u r0), .int x1]) ++ List.replicate (2 - (lg_sl ([.ref (u r0), .int x1])).length) Slot.unset).toArray = ls at hl ⊢
  have hl : lv_has ls 2 [(0, .ref (u r0)), (1, .int x1)] := hl
  refine ow_named (fun QQ hQQ => ?_)
  generalize ([.ref (u r0), .int x1] : List Value).toArray = args at hts hT hQQ ⊢
  have hq : cm_X2_firstCell_0 vl K x1 r0 z = some (r, z1) := hq
  unfold cm_X2_firstCell_0 at hq
  suffices key : ∀ (H : Heap) (locs : List Loc), uw_M D vwCl (cX vl) q (tw_A (cX vl) u) s.heap u z H locs → W p l e ({ frames := 0, cells := 0, slots := 0, locals := 0 } : Room) s m args below meth c H locs 0 0 QQ (F0 m 0 ls []) from key s.heap [] hM
  intro H locs hM
  refine lv_iconst (v := 4) hx hb dcX2_firstCell_0 (by decide) ?_
  refine lv_iconst (v := 2) hx hb dcX2_firstCell_1 (by decide) ?_
  refine lv_iload_n hx hb dcX2_firstCell_2 rfl (lv_at hl 1 rfl) ?_
  refine lv_iconst (v := 1) hx hb dcX2_firstCell_3 (by decide) ?_
  refine lv_iand hx hb dcX2_firstCell_4 ?_
  refine lv_imul hx hb dcX2_firstCell_5 ?_
  refine lv_iadd hx hb dcX2_firstCell_6 ?_
  refine lv_aload_n hx hb dcX2_firstCell_7 rfl (lv_at hl 0 rfl) ?_
  refine vgX2_101 hx hb hT hown hK hM hr0 dcX2_firstCell_8 ?_
  refine lv_iload_n hx hb dcX2_firstCell_11 rfl (lv_at hl 1 rfl) ?_
  refine lv_iconst (v := 1) hx hb dcX2_firstCell_12 (by decide) ?_
  refine lv_ishr hx hb dcX2_firstCell_13 ?_
  refine uw_iald cX_ok hx hb hK hM (cr_X7_2 hr0) hq dcX2_firstCell_14 (fun v1 hq => ?_)
  refine lv_if_ge (tgt := 22) hx hb dcX2_firstCell_15 (by decide) (fun hc => ?_) (fun hc => ?_)
  · have hq := tw_it hq hc
    refine lv_iconst (v := 0) hx hb dcX2_firstCell_22 (by decide) ?_
    refine lv_iadd hx hb dcX2_firstCell_23 ?_
    exact cw_iret hx hb hr hlocks hM hq hQQ dcX2_firstCell_24
  · have hq := tw_if hq hc
    refine lv_iconst (v := 1) hx hb dcX2_firstCell_18 (by decide) ?_
    refine lv_goto (tgt := 23) hx hb dcX2_firstCell_19 (by decide) ?_
    refine lv_iadd hx hb dcX2_firstCell_23 ?_
    exact cw_iret hx hb hr hlocks hM hq hQQ dcX2_firstCell_24
theorem dcX2_leastFirstCell_0 : decode cX2_leastFirstCell 0 = .ok (.bipush 8, 2) := dw_at cX2_leastFirstCell_k0 (p := 0) rfl (by decide +kernel)
theorem dcX2_leastFirstCell_2 : decode cX2_leastFirstCell 2 = .ok (.istore_n 2, 1) := dw_at cX2_leastFirstCell_k0 (p := 2) rfl (by decide +kernel)
theorem dcX2_leastFirstCell_3 : decode cX2_leastFirstCell 3 = .ok (.iconst 0, 1) := dw_at cX2_leastFirstCell_k0 (p := 3) rfl (by decide +kernel)
theorem dcX2_leastFirstCell_4 : decode cX2_leastFirstCell 4 = .ok (.istore_n 3, 1) := dw_at cX2_leastFirstCell_k0 (p := 4) rfl (by decide +kernel)
theorem dcX2_leastFirstCell_5 : decode cX2_leastFirstCell 5 = .ok (.iload_n 3, 1) := dw_at cX2_leastFirstCell_k0 (p := 5) rfl (by decide +kernel)
theorem dcX2_leastFirstCell_6 : decode cX2_leastFirstCell 6 = .ok (.iconst 2, 1) := dw_at cX2_leastFirstCell_k0 (p := 6) rfl (by decide +kernel)
theorem dcX2_leastFirstCell_7 : decode cX2_leastFirstCell 7 = .ok (.aload_n 0, 1) := dw_at cX2_leastFirstCell_k0 (p := 7) rfl (by decide +kernel)
theorem dcX2_leastFirstCell_8 : decode cX2_leastFirstCell 8 = .ok (.getfield 68, 3) := dw_at cX2_leastFirstCell_k0 (p := 8) rfl (by decide +kernel)
theorem dcX2_leastFirstCell_11 : decode cX2_leastFirstCell 11 = .ok (.imul, 1) := dw_at cX2_leastFirstCell_k0 (p := 11) rfl (by decide +kernel)
theorem dcX2_leastFirstCell_12 : decode cX2_leastFirstCell 12 = .ok (.if_icmp .ge 29, 3) := dw_at cX2_leastFirstCell_k0 (p := 12) rfl (by decide +kernel)
theorem dcX2_leastFirstCell_15 : decode cX2_leastFirstCell 15 = .ok (.aload_n 0, 1) := dw_at cX2_leastFirstCell_k0 (p := 15) rfl (by decide +kernel)
theorem dcX2_leastFirstCell_16 : decode cX2_leastFirstCell 16 = .ok (.getfield 92, 3) := dw_at cX2_leastFirstCell_k0 (p := 16) rfl (by decide +kernel)
theorem dcX2_leastFirstCell_19 : decode cX2_leastFirstCell 19 = .ok (.iload_n 3, 1) := dw_at cX2_leastFirstCell_k0 (p := 19) rfl (by decide +kernel)
theorem dcX2_leastFirstCell_20 : decode cX2_leastFirstCell 20 = .ok (.iaload, 1) := dw_at cX2_leastFirstCell_k0 (p := 20) rfl (by decide +kernel)
theorem dcX2_leastFirstCell_21 : decode cX2_leastFirstCell 21 = .ok (.iload_n 1, 1) := dw_at cX2_leastFirstCell_k0 (p := 21) rfl (by decide +kernel)
theorem dcX2_leastFirstCell_22 : decode cX2_leastFirstCell 22 = .ok (.if_icmp .ne 13, 3) := dw_at cX2_leastFirstCell_k0 (p := 22) rfl (by decide +kernel)
theorem dcX2_leastFirstCell_25 : decode cX2_leastFirstCell 25 = .ok (.iload_n 2, 1) := dw_at cX2_leastFirstCell_k1 (p := 0) rfl (by decide +kernel)
theorem dcX2_leastFirstCell_26 : decode cX2_leastFirstCell 26 = .ok (.aload_n 0, 1) := dw_at cX2_leastFirstCell_k1 (p := 1) rfl (by decide +kernel)
theorem dcX2_leastFirstCell_27 : decode cX2_leastFirstCell 27 = .ok (.iload_n 3, 1) := dw_at cX2_leastFirstCell_k1 (p := 2) rfl (by decide +kernel)
theorem dcX2_leastFirstCell_28 : decode cX2_leastFirstCell 28 = .ok (.invokestatic 95, 3) := dw_at cX2_leastFirstCell_k1 (p := 3) rfl (by decide +kernel)
theorem dcX2_leastFirstCell_31 : decode cX2_leastFirstCell 31 = .ok (.invokestatic 104, 3) := dw_at cX2_leastFirstCell_k1 (p := 6) rfl (by decide +kernel)
theorem dcX2_leastFirstCell_34 : decode cX2_leastFirstCell 34 = .ok (.istore_n 2, 1) := dw_at cX2_leastFirstCell_k1 (p := 9) rfl (by decide +kernel)
theorem dcX2_leastFirstCell_35 : decode cX2_leastFirstCell 35 = .ok (.iinc 3 1, 3) := dw_at cX2_leastFirstCell_k1 (p := 10) rfl (by decide +kernel)
theorem dcX2_leastFirstCell_38 : decode cX2_leastFirstCell 38 = .ok (.goto (-33), 3) := dw_at cX2_leastFirstCell_k1 (p := 13) rfl (by decide +kernel)
theorem dcX2_leastFirstCell_41 : decode cX2_leastFirstCell 41 = .ok (.iload_n 2, 1) := dw_at cX2_leastFirstCell_k1 (p := 16) rfl (by decide +kernel)
theorem dcX2_leastFirstCell_42 : decode cX2_leastFirstCell 42 = .ok (.ireturn, 1) := dw_at cX2_leastFirstCell_k1 (p := 17) rfl (by decide +kernel)
def cm_X2_leastFirstCell_0 (vl : Nat → Nat) (K : Nat) (go : Nat → Int32 → Int32 → Int32 → Nat → ow_MS → Option (Int32 × ow_MS)) (x1 : Int32) (x2 : Int32) (x3 : Int32) (r0 : Nat) (z : ow_MS) : Option (Int32 × ow_MS) :=
 go 1 x1 8 0 r0 z
def cm_X2_leastFirstCell_1 (vl : Nat → Nat) (K : Nat) (go : Nat → Int32 → Int32 → Int32 → Nat → ow_MS → Option (Int32 × ow_MS)) (x1 : Int32) (x2 : Int32) (x3 : Int32) (r0 : Nat) (z : ow_MS) : Option (Int32 × ow_MS) :=
 rdF z (r0 + 8) fun v1 => (if (2 * v1) ≤ x3 then some (x2, z)
 else crI (cX vl) z (r0 + 6) x3 fun v2 => (if v2 = x1 then cs1 (ce_X2_firstCell vl K r0 x3 z) fun v4 z3 => go 2 x1 (if v4 < x2 then v4 else x2) x3 r0 z3
 else go 2 x1 x2 x3 r0 z))
def cm_X2_leastFirstCell_2 (vl : Nat → Nat) (K : Nat) (go : Nat → Int32 → Int32 → Int32 → Nat → ow_MS → Option (Int32 × ow_MS)) (x1 : Int32) (x2 : Int32) (x3 : Int32) (r0 : Nat) (z : ow_MS) : Option (Int32 × ow_MS) :=
 go 1 x1 x2 (x3 + 1) r0 z
def cb_X2_leastFirstCell (vl : Nat → Nat) (K : Nat) (go : Nat → Int32 → Int32 → Int32 → Nat → ow_MS → Option (Int32 × ow_MS)) (L : Nat) (x1 : Int32) (x2 : Int32) (x3 : Int32) (r0 : Nat) (z : ow_MS) : Option (Int32 × ow_MS) := match L with
  | 0 => cm_X2_leastFirstCell_0 vl K go x1 x2 x3 r0 z
  | 1 => cm_X2_leastFirstCell_1 vl K go x1 x2 x3 r0 z
  | 2 => cm_X2_leastFirstCell_2 vl K go x1 x2 x3 r0 z
  | _ => none
def c_X2_leastFirstCell (vl : Nat → Nat) (K : Nat) : Nat → Nat → Int32 → Int32 → Int32 → Nat → ow_MS → Option (Int32 × ow_MS)
  | 0 => fun _ _ _ _ _ _ => none
  | k + 1 => cb_X2_leastFirstCell vl K (c_X2_leastFirstCell vl K k)
def ce_X2_leastFirstCell (vl : Nat → Nat) (K : Nat) (r0 : Nat) (x1 : Int32) (z : ow_MS) : Option (Int32 × ow_MS) := c_X2_leastFirstCell vl K K 0 x1 0 0 r0 z
abbrev wc_X2_leastFirstCell : List Cond := .code yX2_leastFirstCell cX2_leastFirstCell 4 (some .int) :: wC
theorem cdd_X2_leastFirstCell : yX2_leastFirstCell.cls ≠ "java/lang/invoke/MethodHandle" ∧ yX2_leastFirstCell.cls ≠ "java/lang/invoke/VarHandle" ∧ (parseMethodDescriptor yX2_leastFirstCell.desc).map (fun d => d.parameters.length) = some 2 := by decide +kernel
set_option maxHeartbeats 4000000 in
set_option maxRecDepth 100000 in
theorem kc_X2_leastFirstCell (l : Launch) (D : va_G) (q : Nat → ClassId) (vl u : Nat → Nat) (hU0 : tw_inj (cX vl) u) (K : Nat) (r0 : Nat) (x1 : Int32) (hr0 : cw_X7 r0) (z z1 : ow_MS) (r : Int32) (hq : ce_X2_leastFirstCell vl K r0 x1 z = some (r, z1)) : Met l yX2_leastFirstCell wc_X2_leastFirstCell ({ frames := 1, cells := 0, slots := 0, locals := 29 } : Room) (va_Pc [.ref (u r0), .int x1] (cw_pre D q vl u z)) (va_Qi (fun x (_ : Unit) => x = r) (fun _ t => va_P D vwCl (uw (cX vl) q u z1) t.heap) (tw_A (cX vl) u)) 0 0 (tw_A (cX vl) u) := by
  refine Met.ofW (cc := cX2_leastFirstCell) (maxL := 4) (ret := (some .int)) (by decide) rfl ?_
  intro p e s m args below meth c s₁ B hml hv
  obtain ⟨rfl, hP, hK⟩ := hv
  have hx := B.exec
  have hb := B.bytes
  have hr := B.returns
  have hts := atoms_spec (ws := wc_X2_leastFirstCell) B.pre
  have hT : ∀ w ∈ wC, w.before ([.ref (u r0), .int x1] : List Value).toArray s = true := fun w h => hts w (List.mem_cons_of_mem _ h)
  have hown : s.vm.findClass RX2 = some m.cls := findClass_of_methodNamed B.named
  have hlocks := B.notSynchronized
  have hU : uw_inj (cX vl) u (tw_A (cX vl) u) := ⟨hU0, fun h hh => ⟨h, hh, rfl⟩⟩
  have hM : uw_M D vwCl (cX vl) q (tw_A (cX vl) u) s.heap u z s.heap [] := ⟨hP, va_S.rf⟩
  have hl := lv_entry ([.ref (u r0), .int x1]) (n := 4) (Nat.le_of_ble_eq_true rfl)
  rw [lg_entry_eq]
  generalize (lg_sl ([.ref (u r0), .int x1]) ++ List.replicate (4 - (lg_sl ([.ref (u r0), .int x1])).length) Slot.unset).toArray = ls at hl ⊢
  have hl : lv_has ls 4 [(0, .ref (u r0)), (1, .int x1)] := hl
  refine ow_named (fun QQ hQQ => ?_)
  generalize ([.ref (u r0), .int x1] : List Value).toArray = args at hts hT hQQ ⊢
  have key : ∀ k : Nat, (∀ (x1 : Int32) (x2 : Int32) (x3 : Int32) (r0 : Nat) (z : ow_MS) (H : Heap) (locs : List Loc) (ls : Array Slot), cw_X7 r0 → uw_M D vwCl (cX vl) q (tw_A (cX vl) u) s.heap u z H locs → lv_has ls 4 [(0, .ref (u r0)), (1, .int x1)] → c_X2_leastFirstCell vl K k 0 x1 x2 x3 r0 z = some (r, z1) → W p l e ({ frames := 1, cells := 0, slots := 0, locals := 29 } : Room) s m args below meth c H locs 0 0 QQ (F0 m 0 ls [])) ∧ (∀ (x1 : Int32) (x2 : Int32) (x3 : Int32) (r0 : Nat) (z : ow_MS) (H : Heap) (locs : List Loc) (ls : Array Slot), cw_X7 r0 → uw_M D vwCl (cX vl) q (tw_A (cX vl) u) s.heap u z H locs → lv_has ls 4 [(0, .ref (u r0)), (1, .int x1), (2, .int x2), (3, .int x3)] → c_X2_leastFirstCell vl K k 1 x1 x2 x3 r0 z = some (r, z1) → W p l e ({ frames := 1, cells := 0, slots := 0, locals := 29 } : Room) s m args below meth c H locs 0 0 QQ (F0 m 5 ls [])) ∧ (∀ (x1 : Int32) (x2 : Int32) (x3 : Int32) (r0 : Nat) (z : ow_MS) (H : Heap) (locs : List Loc) (ls : Array Slot), cw_X7 r0 → uw_M D vwCl (cX vl) q (tw_A (cX vl) u) s.heap u z H locs → lv_has ls 4 [(0, .ref (u r0)), (1, .int x1), (2, .int x2), (3, .int x3)] → c_X2_leastFirstCell vl K k 2 x1 x2 x3 r0 z = some (r, z1) → W p l e ({ frames := 1, cells := 0, slots := 0, locals := 29 } : Room) s m args below meth c H locs 0 0 QQ (F0 m 35 ls [])) := by
    intro k
    induction k with
    | zero => exact ⟨fun _ _ _ _ _ _ _ _ _ _ _ hq => cw_no hq, fun _ _ _ _ _ _ _ _ _ _ _ hq => cw_no hq, fun _ _ _ _ _ _ _ _ _ _ _ hq => cw_no hq⟩
    | succ k ih =>
      obtain ⟨ih_0, ih_1, ih_2⟩ := ih
      refine ⟨?_, ?_, ?_⟩
      · intro x1 x2 x3 r0 z H locs ls hr0 hM hl hq
        have hq : cm_X2_leastFirstCell_0 vl K (c_X2_leastFirstCell vl K k) x1 x2 x3 r0 z = some (r, z1) := hq
        unfold cm_X2_leastFirstCell_0 at hq
        refine lv_bipush (v := 8) hx hb dcX2_leastFirstCell_0 (by decide) ?_
        refine lv_istore_n (lv' := [(2, .int 8), (0, .ref (u r0)), (1, .int x1)]) hx hb dcX2_leastFirstCell_2 rfl hl (by decide) rfl (fun ls hl => ?_)
        refine lv_iconst (v := 0) hx hb dcX2_leastFirstCell_3 (by decide) ?_
        refine lv_istore_n (lv' := [(3, .int 0), (2, .int 8), (0, .ref (u r0)), (1, .int x1)]) hx hb dcX2_leastFirstCell_4 rfl hl (by decide) rfl (fun ls hl => ?_)
        exact ih_1 x1 8 0 r0 z H locs ls hr0 hM (lv_sub hl [2, 3, 1, 0] rfl) hq
      · intro x1 x2 x3 r0 z H locs ls hr0 hM hl hq
        have hq : cm_X2_leastFirstCell_1 vl K (c_X2_leastFirstCell vl K k) x1 x2 x3 r0 z = some (r, z1) := hq
        unfold cm_X2_leastFirstCell_1 at hq
        refine lv_iload_n hx hb dcX2_leastFirstCell_5 rfl (lv_at hl 3 rfl) ?_
        refine lv_iconst (v := 2) hx hb dcX2_leastFirstCell_6 (by decide) ?_
        refine lv_aload_n hx hb dcX2_leastFirstCell_7 rfl (lv_at hl 0 rfl) ?_
        refine vgX2_68 hx hb hT hown hK hM hr0 hq dcX2_leastFirstCell_8 (fun v1 hq => ?_)
        refine lv_imul hx hb dcX2_leastFirstCell_11 ?_
        refine lv_icmp_ge (tgt := 41) hx hb dcX2_leastFirstCell_12 (by decide) (fun hc => ?_) (fun hc => ?_)
        · have hq := tw_it hq hc
          refine lv_iload_n hx hb dcX2_leastFirstCell_41 rfl (lv_at hl 2 rfl) ?_
          exact cw_iret hx hb hr hlocks hM hq hQQ dcX2_leastFirstCell_42
        · have hq := tw_if hq hc
          refine lv_aload_n hx hb dcX2_leastFirstCell_15 rfl (lv_at hl 0 rfl) ?_
          refine vgX2_92 hx hb hT hown hK hM hr0 dcX2_leastFirstCell_16 ?_
          refine lv_iload_n hx hb dcX2_leastFirstCell_19 rfl (lv_at hl 3 rfl) ?_
          refine uw_iald cX_ok hx hb hK hM (cr_X7_5 hr0) hq dcX2_leastFirstCell_20 (fun v2 hq => ?_)
          refine lv_iload_n hx hb dcX2_leastFirstCell_21 rfl (lv_at hl 1 rfl) ?_
          refine lv_icmp_ne (tgt := 35) hx hb dcX2_leastFirstCell_22 (by decide) (fun hc => ?_) (fun hc => ?_)
          · have hq := tw_if hq hc
            exact ih_2 x1 x2 x3 r0 z H locs ls hr0 hM (lv_sub hl [0, 1, 2, 3] rfl) hq
          · have hq := tw_it hq hc
            refine lv_iload_n hx hb dcX2_leastFirstCell_25 rfl (lv_at hl 2 rfl) ?_
            refine lv_aload_n hx hb dcX2_leastFirstCell_26 rfl (lv_at hl 0 rfl) ?_
            refine lv_iload_n hx hb dcX2_leastFirstCell_27 rfl (lv_at hl 3 rfl) ?_
            obtain ⟨v4, z3, hcq, hq⟩ := tw_cl1 hq
            refine uw_cali hU hM (va_runS (As := [.ref (u r0), .int x3]) (rest := [.int x2]) ⟨hx, hb, hml, hown, hts⟩ (kc_X2_firstCell l D q vl u hU.1 K r0 x3 hr0 z z3 v4 hcq) (va_cwS 2 hts (tw_gS wC_good xq_298 xq_299 xq_283 xq_300) rfl rfl rfl cdd_X2_firstCell ⟨(Nat.le_of_ble_eq_true rfl), (Nat.le_of_ble_eq_true rfl)⟩) (cw_preS hK hM) rfl rfl hl.1 rfl (lv_room (Nat.le_of_ble_eq_true rfl)) dcX2_leastFirstCell_28 ⟨(Nat.le_of_ble_eq_true rfl), (Nat.le_of_ble_eq_true rfl)⟩) (fun H locs hM => ?_)
            refine va_mmin hx hb (by rw [hml]; exact hl.1.symm) hown (hT _ xq_297) (hT _ xq_76) (hT _ xq_18) (hT _ xq_77) (Nat.le_of_ble_eq_true rfl) (by decide) (Nat.le_of_ble_eq_true rfl) (Nat.le_of_ble_eq_true rfl) dcX2_leastFirstCell_31 ?_
            refine lv_istore_n (lv' := [(2, .int (if v4 < x2 then v4 else x2)), (0, .ref (u r0)), (1, .int x1), (3, .int x3)]) hx hb dcX2_leastFirstCell_34 rfl hl (by decide) rfl (fun ls hl => ?_)
            exact ih_2 x1 (if v4 < x2 then v4 else x2) x3 r0 z3 H locs ls hr0 hM (lv_sub hl [1, 2, 0, 3] rfl) hq
      · intro x1 x2 x3 r0 z H locs ls hr0 hM hl hq
        have hq : cm_X2_leastFirstCell_2 vl K (c_X2_leastFirstCell vl K k) x1 x2 x3 r0 z = some (r, z1) := hq
        unfold cm_X2_leastFirstCell_2 at hq
        refine lv_iinc (v := (x3 + 1)) (lv' := [(3, .int (x3 + 1)), (0, .ref (u r0)), (1, .int x1), (2, .int x2)]) hx hb dcX2_leastFirstCell_35 hl (k := 3) rfl rfl (by decide) rfl (fun ls hl => ?_)
        refine lv_goto (tgt := 5) hx hb dcX2_leastFirstCell_38 (by decide) ?_
        exact ih_1 x1 x2 (x3 + 1) r0 z H locs ls hr0 hM (lv_sub hl [1, 2, 3, 0] rfl) hq
  exact (key K).1 x1 0 0 r0 z s.heap [] ls hr0 hM (lv_sub hl [0, 1] rfl) hq
theorem dcX2_tryFrom_0 : decode cX2_tryFrom 0 = .ok (.aload_n 0, 1) := dw_at cX2_tryFrom_k0 (p := 0) rfl (by decide +kernel)
theorem dcX2_tryFrom_1 : decode cX2_tryFrom 1 = .ok (.getfield 30, 3) := dw_at cX2_tryFrom_k0 (p := 1) rfl (by decide +kernel)
theorem dcX2_tryFrom_4 : decode cX2_tryFrom 4 = .ok (.iconst 0, 1) := dw_at cX2_tryFrom_k0 (p := 4) rfl (by decide +kernel)
theorem dcX2_tryFrom_5 : decode cX2_tryFrom 5 = .ok (.invokestatic 110, 3) := dw_at cX2_tryFrom_k0 (p := 5) rfl (by decide +kernel)
theorem dcX2_tryFrom_8 : decode cX2_tryFrom 8 = .ok (.aload_n 0, 1) := dw_at cX2_tryFrom_k0 (p := 8) rfl (by decide +kernel)
theorem dcX2_tryFrom_9 : decode cX2_tryFrom 9 = .ok (.getfield 20, 3) := dw_at cX2_tryFrom_k0 (p := 9) rfl (by decide +kernel)
theorem dcX2_tryFrom_12 : decode cX2_tryFrom 12 = .ok (.getfield 51, 3) := dw_at cX2_tryFrom_k0 (p := 12) rfl (by decide +kernel)
theorem dcX2_tryFrom_15 : decode cX2_tryFrom 15 = .ok (.astore_n 3, 1) := dw_at cX2_tryFrom_k0 (p := 15) rfl (by decide +kernel)
theorem dcX2_tryFrom_16 : decode cX2_tryFrom 16 = .ok (.aload_n 0, 1) := dw_at cX2_tryFrom_k0 (p := 16) rfl (by decide +kernel)
theorem dcX2_tryFrom_17 : decode cX2_tryFrom 17 = .ok (.getfield 20, 3) := dw_at cX2_tryFrom_k0 (p := 17) rfl (by decide +kernel)
theorem dcX2_tryFrom_20 : decode cX2_tryFrom 20 = .ok (.getfield 48, 3) := dw_at cX2_tryFrom_k0 (p := 20) rfl (by decide +kernel)
theorem dcX2_tryFrom_23 : decode cX2_tryFrom 23 = .ok (.iconst 0, 1) := dw_at cX2_tryFrom_k0 (p := 23) rfl (by decide +kernel)
theorem dcX2_tryFrom_24 : decode cX2_tryFrom 24 = .ok (.baload, 1) := dw_at cX2_tryFrom_k1 (p := 0) rfl (by decide +kernel)
theorem dcX2_tryFrom_25 : decode cX2_tryFrom 25 = .ok (.ifCond .le 7, 3) := dw_at cX2_tryFrom_k1 (p := 1) rfl (by decide +kernel)
theorem dcX2_tryFrom_28 : decode cX2_tryFrom 28 = .ok (.iconst 1, 1) := dw_at cX2_tryFrom_k1 (p := 4) rfl (by decide +kernel)
theorem dcX2_tryFrom_29 : decode cX2_tryFrom 29 = .ok (.goto 4, 3) := dw_at cX2_tryFrom_k1 (p := 5) rfl (by decide +kernel)
theorem dcX2_tryFrom_32 : decode cX2_tryFrom 32 = .ok (.iconst 0, 1) := dw_at cX2_tryFrom_k1 (p := 8) rfl (by decide +kernel)
theorem dcX2_tryFrom_33 : decode cX2_tryFrom 33 = .ok (.istore 4, 2) := dw_at cX2_tryFrom_k1 (p := 9) rfl (by decide +kernel)
theorem dcX2_tryFrom_35 : decode cX2_tryFrom 35 = .ok (.iconst 0, 1) := dw_at cX2_tryFrom_k1 (p := 11) rfl (by decide +kernel)
theorem dcX2_tryFrom_36 : decode cX2_tryFrom 36 = .ok (.istore 5, 2) := dw_at cX2_tryFrom_k1 (p := 12) rfl (by decide +kernel)
theorem dcX2_tryFrom_38 : decode cX2_tryFrom 38 = .ok (.iconst 0, 1) := dw_at cX2_tryFrom_k1 (p := 14) rfl (by decide +kernel)
theorem dcX2_tryFrom_39 : decode cX2_tryFrom 39 = .ok (.istore 6, 2) := dw_at cX2_tryFrom_k1 (p := 15) rfl (by decide +kernel)
theorem dcX2_tryFrom_41 : decode cX2_tryFrom 41 = .ok (.iconst 0, 1) := dw_at cX2_tryFrom_k1 (p := 17) rfl (by decide +kernel)
theorem dcX2_tryFrom_42 : decode cX2_tryFrom 42 = .ok (.istore 7, 2) := dw_at cX2_tryFrom_k1 (p := 18) rfl (by decide +kernel)
theorem dcX2_tryFrom_44 : decode cX2_tryFrom 44 = .ok (.iconst 0, 1) := dw_at cX2_tryFrom_k1 (p := 20) rfl (by decide +kernel)
theorem dcX2_tryFrom_45 : decode cX2_tryFrom 45 = .ok (.istore 8, 2) := dw_at cX2_tryFrom_k1 (p := 21) rfl (by decide +kernel)
theorem dcX2_tryFrom_47 : decode cX2_tryFrom 47 = .ok (.iload_n 2, 1) := dw_at cX2_tryFrom_k1 (p := 23) rfl (by decide +kernel)
theorem dcX2_tryFrom_48 : decode cX2_tryFrom 48 = .ok (.istore 9, 2) := dw_at cX2_tryFrom_k2 (p := 0) rfl (by decide +kernel)
theorem dcX2_tryFrom_50 : decode cX2_tryFrom 50 = .ok (.iconst 0, 1) := dw_at cX2_tryFrom_k2 (p := 2) rfl (by decide +kernel)
theorem dcX2_tryFrom_51 : decode cX2_tryFrom 51 = .ok (.istore 10, 2) := dw_at cX2_tryFrom_k2 (p := 3) rfl (by decide +kernel)
theorem dcX2_tryFrom_53 : decode cX2_tryFrom 53 = .ok (.iload 10, 2) := dw_at cX2_tryFrom_k2 (p := 5) rfl (by decide +kernel)
theorem dcX2_tryFrom_55 : decode cX2_tryFrom 55 = .ok (.bipush 24, 2) := dw_at cX2_tryFrom_k2 (p := 7) rfl (by decide +kernel)
theorem dcX2_tryFrom_57 : decode cX2_tryFrom 57 = .ok (.if_icmp .ge 270, 3) := dw_at cX2_tryFrom_k2 (p := 9) rfl (by decide +kernel)
theorem dcX2_tryFrom_60 : decode cX2_tryFrom 60 = .ok (.iload 9, 2) := dw_at cX2_tryFrom_k2 (p := 12) rfl (by decide +kernel)
theorem dcX2_tryFrom_62 : decode cX2_tryFrom 62 = .ok (.iconst (-1), 1) := dw_at cX2_tryFrom_k2 (p := 14) rfl (by decide +kernel)
theorem dcX2_tryFrom_63 : decode cX2_tryFrom 63 = .ok (.if_icmp .eq 264, 3) := dw_at cX2_tryFrom_k2 (p := 15) rfl (by decide +kernel)
theorem dcX2_tryFrom_66 : decode cX2_tryFrom 66 = .ok (.iload 9, 2) := dw_at cX2_tryFrom_k2 (p := 18) rfl (by decide +kernel)
theorem dcX2_tryFrom_68 : decode cX2_tryFrom 68 = .ok (.istore 11, 2) := dw_at cX2_tryFrom_k2 (p := 20) rfl (by decide +kernel)
theorem dcX2_tryFrom_70 : decode cX2_tryFrom 70 = .ok (.iconst 0, 1) := dw_at cX2_tryFrom_k2 (p := 22) rfl (by decide +kernel)
theorem dcX2_tryFrom_71 : decode cX2_tryFrom 71 = .ok (.istore 12, 2) := dw_at cX2_tryFrom_k2 (p := 23) rfl (by decide +kernel)
theorem dcX2_tryFrom_73 : decode cX2_tryFrom 73 = .ok (.iload 12, 2) := dw_at cX2_tryFrom_k3 (p := 0) rfl (by decide +kernel)
theorem dcX2_tryFrom_75 : decode cX2_tryFrom 75 = .ok (.bipush 24, 2) := dw_at cX2_tryFrom_k3 (p := 2) rfl (by decide +kernel)
theorem dcX2_tryFrom_77 : decode cX2_tryFrom 77 = .ok (.if_icmp .ge 144, 3) := dw_at cX2_tryFrom_k3 (p := 4) rfl (by decide +kernel)
theorem dcX2_tryFrom_80 : decode cX2_tryFrom 80 = .ok (.iload 11, 2) := dw_at cX2_tryFrom_k3 (p := 7) rfl (by decide +kernel)
theorem dcX2_tryFrom_82 : decode cX2_tryFrom 82 = .ok (.iconst 1, 1) := dw_at cX2_tryFrom_k3 (p := 9) rfl (by decide +kernel)
theorem dcX2_tryFrom_83 : decode cX2_tryFrom 83 = .ok (.ishr, 1) := dw_at cX2_tryFrom_k3 (p := 10) rfl (by decide +kernel)
theorem dcX2_tryFrom_84 : decode cX2_tryFrom 84 = .ok (.istore 13, 2) := dw_at cX2_tryFrom_k3 (p := 11) rfl (by decide +kernel)
theorem dcX2_tryFrom_86 : decode cX2_tryFrom 86 = .ok (.aload_n 0, 1) := dw_at cX2_tryFrom_k3 (p := 13) rfl (by decide +kernel)
theorem dcX2_tryFrom_87 : decode cX2_tryFrom 87 = .ok (.getfield 30, 3) := dw_at cX2_tryFrom_k3 (p := 14) rfl (by decide +kernel)
theorem dcX2_tryFrom_90 : decode cX2_tryFrom 90 = .ok (.iload 13, 2) := dw_at cX2_tryFrom_k3 (p := 17) rfl (by decide +kernel)
theorem dcX2_tryFrom_92 : decode cX2_tryFrom 92 = .ok (.iaload, 1) := dw_at cX2_tryFrom_k3 (p := 19) rfl (by decide +kernel)
theorem dcX2_tryFrom_93 : decode cX2_tryFrom 93 = .ok (.ifCond .ne 24, 3) := dw_at cX2_tryFrom_k3 (p := 20) rfl (by decide +kernel)
theorem dcX2_tryFrom_96 : decode cX2_tryFrom 96 = .ok (.aload_n 0, 1) := dw_at cX2_tryFrom_k3 (p := 23) rfl (by decide +kernel)
theorem dcX2_tryFrom_97 : decode cX2_tryFrom 97 = .ok (.getfield 34, 3) := dw_at cX2_tryFrom_k4 (p := 0) rfl (by decide +kernel)
theorem dcX2_tryFrom_100 : decode cX2_tryFrom 100 = .ok (.iload 5, 2) := dw_at cX2_tryFrom_k4 (p := 3) rfl (by decide +kernel)
theorem dcX2_tryFrom_102 : decode cX2_tryFrom 102 = .ok (.iload 13, 2) := dw_at cX2_tryFrom_k4 (p := 5) rfl (by decide +kernel)
theorem dcX2_tryFrom_104 : decode cX2_tryFrom 104 = .ok (.iastore, 1) := dw_at cX2_tryFrom_k4 (p := 7) rfl (by decide +kernel)
theorem dcX2_tryFrom_105 : decode cX2_tryFrom 105 = .ok (.iinc 5 1, 3) := dw_at cX2_tryFrom_k4 (p := 8) rfl (by decide +kernel)
theorem dcX2_tryFrom_108 : decode cX2_tryFrom 108 = .ok (.aload_n 0, 1) := dw_at cX2_tryFrom_k4 (p := 11) rfl (by decide +kernel)
theorem dcX2_tryFrom_109 : decode cX2_tryFrom 109 = .ok (.getfield 30, 3) := dw_at cX2_tryFrom_k4 (p := 12) rfl (by decide +kernel)
theorem dcX2_tryFrom_112 : decode cX2_tryFrom 112 = .ok (.iload 13, 2) := dw_at cX2_tryFrom_k4 (p := 15) rfl (by decide +kernel)
theorem dcX2_tryFrom_114 : decode cX2_tryFrom 114 = .ok (.iload 5, 2) := dw_at cX2_tryFrom_k4 (p := 17) rfl (by decide +kernel)
theorem dcX2_tryFrom_116 : decode cX2_tryFrom 116 = .ok (.iastore, 1) := dw_at cX2_tryFrom_k4 (p := 19) rfl (by decide +kernel)
theorem dcX2_tryFrom_117 : decode cX2_tryFrom 117 = .ok (.iconst 4, 1) := dw_at cX2_tryFrom_k4 (p := 20) rfl (by decide +kernel)
theorem dcX2_tryFrom_118 : decode cX2_tryFrom 118 = .ok (.aload_n 0, 1) := dw_at cX2_tryFrom_k4 (p := 21) rfl (by decide +kernel)
theorem dcX2_tryFrom_119 : decode cX2_tryFrom 119 = .ok (.getfield 30, 3) := dw_at cX2_tryFrom_k4 (p := 22) rfl (by decide +kernel)
theorem dcX2_tryFrom_122 : decode cX2_tryFrom 122 = .ok (.iload 13, 2) := dw_at cX2_tryFrom_k5 (p := 0) rfl (by decide +kernel)
theorem dcX2_tryFrom_124 : decode cX2_tryFrom 124 = .ok (.iaload, 1) := dw_at cX2_tryFrom_k5 (p := 2) rfl (by decide +kernel)
theorem dcX2_tryFrom_125 : decode cX2_tryFrom 125 = .ok (.iconst 1, 1) := dw_at cX2_tryFrom_k5 (p := 3) rfl (by decide +kernel)
theorem dcX2_tryFrom_126 : decode cX2_tryFrom 126 = .ok (.isub, 1) := dw_at cX2_tryFrom_k5 (p := 4) rfl (by decide +kernel)
theorem dcX2_tryFrom_127 : decode cX2_tryFrom 127 = .ok (.imul, 1) := dw_at cX2_tryFrom_k5 (p := 5) rfl (by decide +kernel)
theorem dcX2_tryFrom_128 : decode cX2_tryFrom 128 = .ok (.aload_n 1, 1) := dw_at cX2_tryFrom_k5 (p := 6) rfl (by decide +kernel)
theorem dcX2_tryFrom_129 : decode cX2_tryFrom 129 = .ok (.iload 11, 2) := dw_at cX2_tryFrom_k5 (p := 7) rfl (by decide +kernel)
theorem dcX2_tryFrom_131 : decode cX2_tryFrom 131 = .ok (.invokestatic 95, 3) := dw_at cX2_tryFrom_k5 (p := 9) rfl (by decide +kernel)
theorem dcX2_tryFrom_134 : decode cX2_tryFrom 134 = .ok (.iadd, 1) := dw_at cX2_tryFrom_k5 (p := 12) rfl (by decide +kernel)
theorem dcX2_tryFrom_135 : decode cX2_tryFrom 135 = .ok (.istore 14, 2) := dw_at cX2_tryFrom_k5 (p := 13) rfl (by decide +kernel)
theorem dcX2_tryFrom_137 : decode cX2_tryFrom 137 = .ok (.iload 4, 2) := dw_at cX2_tryFrom_k5 (p := 15) rfl (by decide +kernel)
theorem dcX2_tryFrom_139 : decode cX2_tryFrom 139 = .ok (.ifCond .eq 14, 3) := dw_at cX2_tryFrom_k5 (p := 17) rfl (by decide +kernel)
theorem dcX2_tryFrom_142 : decode cX2_tryFrom 142 = .ok (.iload 14, 2) := dw_at cX2_tryFrom_k5 (p := 20) rfl (by decide +kernel)
theorem dcX2_tryFrom_144 : decode cX2_tryFrom 144 = .ok (.aload_n 3, 1) := dw_at cX2_tryFrom_k5 (p := 22) rfl (by decide +kernel)
theorem dcX2_tryFrom_145 : decode cX2_tryFrom 145 = .ok (.iload 8, 2) := dw_at cX2_tryFrom_k5 (p := 23) rfl (by decide +kernel)
theorem dcX2_tryFrom_147 : decode cX2_tryFrom 147 = .ok (.baload, 1) := dw_at cX2_tryFrom_k6 (p := 0) rfl (by decide +kernel)
theorem dcX2_tryFrom_148 : decode cX2_tryFrom 148 = .ok (.if_icmp .le 5, 3) := dw_at cX2_tryFrom_k6 (p := 1) rfl (by decide +kernel)
theorem dcX2_tryFrom_151 : decode cX2_tryFrom 151 = .ok (.iconst 0, 1) := dw_at cX2_tryFrom_k6 (p := 4) rfl (by decide +kernel)
theorem dcX2_tryFrom_152 : decode cX2_tryFrom 152 = .ok (.ireturn, 1) := dw_at cX2_tryFrom_k6 (p := 5) rfl (by decide +kernel)
theorem dcX2_tryFrom_153 : decode cX2_tryFrom 153 = .ok (.iload 4, 2) := dw_at cX2_tryFrom_k6 (p := 6) rfl (by decide +kernel)
theorem dcX2_tryFrom_155 : decode cX2_tryFrom 155 = .ok (.ifCond .eq 16, 3) := dw_at cX2_tryFrom_k6 (p := 8) rfl (by decide +kernel)
theorem dcX2_tryFrom_158 : decode cX2_tryFrom 158 = .ok (.iload 14, 2) := dw_at cX2_tryFrom_k6 (p := 11) rfl (by decide +kernel)
theorem dcX2_tryFrom_160 : decode cX2_tryFrom 160 = .ok (.aload_n 3, 1) := dw_at cX2_tryFrom_k6 (p := 13) rfl (by decide +kernel)
theorem dcX2_tryFrom_161 : decode cX2_tryFrom 161 = .ok (.iload 8, 2) := dw_at cX2_tryFrom_k6 (p := 14) rfl (by decide +kernel)
theorem dcX2_tryFrom_163 : decode cX2_tryFrom 163 = .ok (.baload, 1) := dw_at cX2_tryFrom_k6 (p := 16) rfl (by decide +kernel)
theorem dcX2_tryFrom_164 : decode cX2_tryFrom 164 = .ok (.if_icmp .ne 7, 3) := dw_at cX2_tryFrom_k6 (p := 17) rfl (by decide +kernel)
theorem dcX2_tryFrom_167 : decode cX2_tryFrom 167 = .ok (.iconst 1, 1) := dw_at cX2_tryFrom_k6 (p := 20) rfl (by decide +kernel)
theorem dcX2_tryFrom_168 : decode cX2_tryFrom 168 = .ok (.goto 4, 3) := dw_at cX2_tryFrom_k6 (p := 21) rfl (by decide +kernel)
theorem dcX2_tryFrom_171 : decode cX2_tryFrom 171 = .ok (.iconst 0, 1) := dw_at cX2_tryFrom_k7 (p := 0) rfl (by decide +kernel)
theorem dcX2_tryFrom_172 : decode cX2_tryFrom 172 = .ok (.istore 4, 2) := dw_at cX2_tryFrom_k7 (p := 1) rfl (by decide +kernel)
theorem dcX2_tryFrom_174 : decode cX2_tryFrom 174 = .ok (.aload_n 0, 1) := dw_at cX2_tryFrom_k7 (p := 3) rfl (by decide +kernel)
theorem dcX2_tryFrom_175 : decode cX2_tryFrom 175 = .ok (.getfield 26, 3) := dw_at cX2_tryFrom_k7 (p := 4) rfl (by decide +kernel)
theorem dcX2_tryFrom_178 : decode cX2_tryFrom 178 = .ok (.iload 8, 2) := dw_at cX2_tryFrom_k7 (p := 7) rfl (by decide +kernel)
theorem dcX2_tryFrom_180 : decode cX2_tryFrom 180 = .ok (.iload 14, 2) := dw_at cX2_tryFrom_k7 (p := 9) rfl (by decide +kernel)
theorem dcX2_tryFrom_182 : decode cX2_tryFrom 182 = .ok (.i2b, 1) := dw_at cX2_tryFrom_k7 (p := 11) rfl (by decide +kernel)
theorem dcX2_tryFrom_183 : decode cX2_tryFrom 183 = .ok (.bastore, 1) := dw_at cX2_tryFrom_k7 (p := 12) rfl (by decide +kernel)
theorem dcX2_tryFrom_184 : decode cX2_tryFrom 184 = .ok (.iinc 8 1, 3) := dw_at cX2_tryFrom_k7 (p := 13) rfl (by decide +kernel)
theorem dcX2_tryFrom_187 : decode cX2_tryFrom 187 = .ok (.iload 7, 2) := dw_at cX2_tryFrom_k7 (p := 16) rfl (by decide +kernel)
theorem dcX2_tryFrom_189 : decode cX2_tryFrom 189 = .ok (.iconst 1, 1) := dw_at cX2_tryFrom_k7 (p := 18) rfl (by decide +kernel)
theorem dcX2_tryFrom_190 : decode cX2_tryFrom 190 = .ok (.iload 11, 2) := dw_at cX2_tryFrom_k7 (p := 19) rfl (by decide +kernel)
theorem dcX2_tryFrom_192 : decode cX2_tryFrom 192 = .ok (.ishl, 1) := dw_at cX2_tryFrom_k7 (p := 21) rfl (by decide +kernel)
theorem dcX2_tryFrom_193 : decode cX2_tryFrom 193 = .ok (.ior, 1) := dw_at cX2_tryFrom_k7 (p := 22) rfl (by decide +kernel)
theorem dcX2_tryFrom_194 : decode cX2_tryFrom 194 = .ok (.istore 7, 2) := dw_at cX2_tryFrom_k7 (p := 23) rfl (by decide +kernel)
theorem dcX2_tryFrom_196 : decode cX2_tryFrom 196 = .ok (.aload_n 1, 1) := dw_at cX2_tryFrom_k8 (p := 0) rfl (by decide +kernel)
theorem dcX2_tryFrom_197 : decode cX2_tryFrom 197 = .ok (.getfield 116, 3) := dw_at cX2_tryFrom_k8 (p := 1) rfl (by decide +kernel)
theorem dcX2_tryFrom_200 : decode cX2_tryFrom 200 = .ok (.iload 11, 2) := dw_at cX2_tryFrom_k8 (p := 4) rfl (by decide +kernel)
theorem dcX2_tryFrom_202 : decode cX2_tryFrom 202 = .ok (.iaload, 1) := dw_at cX2_tryFrom_k8 (p := 6) rfl (by decide +kernel)
theorem dcX2_tryFrom_203 : decode cX2_tryFrom 203 = .ok (.istore 11, 2) := dw_at cX2_tryFrom_k8 (p := 7) rfl (by decide +kernel)
theorem dcX2_tryFrom_205 : decode cX2_tryFrom 205 = .ok (.iload 11, 2) := dw_at cX2_tryFrom_k8 (p := 9) rfl (by decide +kernel)
theorem dcX2_tryFrom_207 : decode cX2_tryFrom 207 = .ok (.iload 9, 2) := dw_at cX2_tryFrom_k8 (p := 11) rfl (by decide +kernel)
theorem dcX2_tryFrom_209 : decode cX2_tryFrom 209 = .ok (.if_icmp .ne 6, 3) := dw_at cX2_tryFrom_k8 (p := 13) rfl (by decide +kernel)
theorem dcX2_tryFrom_212 : decode cX2_tryFrom 212 = .ok (.goto 9, 3) := dw_at cX2_tryFrom_k8 (p := 16) rfl (by decide +kernel)
theorem dcX2_tryFrom_215 : decode cX2_tryFrom 215 = .ok (.iinc 12 1, 3) := dw_at cX2_tryFrom_k8 (p := 19) rfl (by decide +kernel)
theorem dcX2_tryFrom_218 : decode cX2_tryFrom 218 = .ok (.goto (-145), 3) := dw_at cX2_tryFrom_k8 (p := 22) rfl (by decide +kernel)
theorem dcX2_tryFrom_221 : decode cX2_tryFrom 221 = .ok (.iload 4, 2) := dw_at cX2_tryFrom_k9 (p := 0) rfl (by decide +kernel)
theorem dcX2_tryFrom_223 : decode cX2_tryFrom 223 = .ok (.ifCond .eq 14, 3) := dw_at cX2_tryFrom_k9 (p := 2) rfl (by decide +kernel)
theorem dcX2_tryFrom_226 : decode cX2_tryFrom 226 = .ok (.aload_n 3, 1) := dw_at cX2_tryFrom_k9 (p := 5) rfl (by decide +kernel)
theorem dcX2_tryFrom_227 : decode cX2_tryFrom 227 = .ok (.iload 8, 2) := dw_at cX2_tryFrom_k9 (p := 6) rfl (by decide +kernel)
theorem dcX2_tryFrom_229 : decode cX2_tryFrom 229 = .ok (.baload, 1) := dw_at cX2_tryFrom_k9 (p := 8) rfl (by decide +kernel)
theorem dcX2_tryFrom_230 : decode cX2_tryFrom 230 = .ok (.ifCond .ne 7, 3) := dw_at cX2_tryFrom_k9 (p := 9) rfl (by decide +kernel)
theorem dcX2_tryFrom_233 : decode cX2_tryFrom 233 = .ok (.iconst 1, 1) := dw_at cX2_tryFrom_k9 (p := 12) rfl (by decide +kernel)
theorem dcX2_tryFrom_234 : decode cX2_tryFrom 234 = .ok (.goto 4, 3) := dw_at cX2_tryFrom_k9 (p := 13) rfl (by decide +kernel)
theorem dcX2_tryFrom_237 : decode cX2_tryFrom 237 = .ok (.iconst 0, 1) := dw_at cX2_tryFrom_k9 (p := 16) rfl (by decide +kernel)
theorem dcX2_tryFrom_238 : decode cX2_tryFrom 238 = .ok (.istore 4, 2) := dw_at cX2_tryFrom_k9 (p := 17) rfl (by decide +kernel)
theorem dcX2_tryFrom_240 : decode cX2_tryFrom 240 = .ok (.aload_n 0, 1) := dw_at cX2_tryFrom_k9 (p := 19) rfl (by decide +kernel)
theorem dcX2_tryFrom_241 : decode cX2_tryFrom 241 = .ok (.getfield 26, 3) := dw_at cX2_tryFrom_k9 (p := 20) rfl (by decide +kernel)
theorem dcX2_tryFrom_244 : decode cX2_tryFrom 244 = .ok (.iload 8, 2) := dw_at cX2_tryFrom_k9 (p := 23) rfl (by decide +kernel)
theorem dcX2_tryFrom_246 : decode cX2_tryFrom 246 = .ok (.iconst 0, 1) := dw_at cX2_tryFrom_k10 (p := 0) rfl (by decide +kernel)
theorem dcX2_tryFrom_247 : decode cX2_tryFrom 247 = .ok (.bastore, 1) := dw_at cX2_tryFrom_k10 (p := 1) rfl (by decide +kernel)
theorem dcX2_tryFrom_248 : decode cX2_tryFrom 248 = .ok (.iinc 8 1, 3) := dw_at cX2_tryFrom_k10 (p := 2) rfl (by decide +kernel)
theorem dcX2_tryFrom_251 : decode cX2_tryFrom 251 = .ok (.iconst (-1), 1) := dw_at cX2_tryFrom_k10 (p := 5) rfl (by decide +kernel)
theorem dcX2_tryFrom_252 : decode cX2_tryFrom 252 = .ok (.istore 9, 2) := dw_at cX2_tryFrom_k10 (p := 6) rfl (by decide +kernel)
theorem dcX2_tryFrom_254 : decode cX2_tryFrom 254 = .ok (.iload 6, 2) := dw_at cX2_tryFrom_k10 (p := 8) rfl (by decide +kernel)
theorem dcX2_tryFrom_256 : decode cX2_tryFrom 256 = .ok (.iload 5, 2) := dw_at cX2_tryFrom_k10 (p := 10) rfl (by decide +kernel)
theorem dcX2_tryFrom_258 : decode cX2_tryFrom 258 = .ok (.if_icmp .ge 63, 3) := dw_at cX2_tryFrom_k10 (p := 12) rfl (by decide +kernel)
theorem dcX2_tryFrom_261 : decode cX2_tryFrom 261 = .ok (.iload 9, 2) := dw_at cX2_tryFrom_k10 (p := 15) rfl (by decide +kernel)
theorem dcX2_tryFrom_263 : decode cX2_tryFrom 263 = .ok (.iconst (-1), 1) := dw_at cX2_tryFrom_k10 (p := 17) rfl (by decide +kernel)
theorem dcX2_tryFrom_264 : decode cX2_tryFrom 264 = .ok (.if_icmp .ne 57, 3) := dw_at cX2_tryFrom_k10 (p := 18) rfl (by decide +kernel)
theorem dcX2_tryFrom_267 : decode cX2_tryFrom 267 = .ok (.iconst 2, 1) := dw_at cX2_tryFrom_k10 (p := 21) rfl (by decide +kernel)
theorem dcX2_tryFrom_268 : decode cX2_tryFrom 268 = .ok (.aload_n 0, 1) := dw_at cX2_tryFrom_k10 (p := 22) rfl (by decide +kernel)
theorem dcX2_tryFrom_269 : decode cX2_tryFrom 269 = .ok (.getfield 34, 3) := dw_at cX2_tryFrom_k10 (p := 23) rfl (by decide +kernel)
theorem dcX2_tryFrom_272 : decode cX2_tryFrom 272 = .ok (.iload 6, 2) := dw_at cX2_tryFrom_k11 (p := 0) rfl (by decide +kernel)
theorem dcX2_tryFrom_274 : decode cX2_tryFrom 274 = .ok (.iaload, 1) := dw_at cX2_tryFrom_k11 (p := 2) rfl (by decide +kernel)
theorem dcX2_tryFrom_275 : decode cX2_tryFrom 275 = .ok (.imul, 1) := dw_at cX2_tryFrom_k11 (p := 3) rfl (by decide +kernel)
theorem dcX2_tryFrom_276 : decode cX2_tryFrom 276 = .ok (.istore 12, 2) := dw_at cX2_tryFrom_k11 (p := 4) rfl (by decide +kernel)
theorem dcX2_tryFrom_278 : decode cX2_tryFrom 278 = .ok (.iload 7, 2) := dw_at cX2_tryFrom_k11 (p := 6) rfl (by decide +kernel)
theorem dcX2_tryFrom_280 : decode cX2_tryFrom 280 = .ok (.iload 12, 2) := dw_at cX2_tryFrom_k11 (p := 8) rfl (by decide +kernel)
theorem dcX2_tryFrom_282 : decode cX2_tryFrom 282 = .ok (.ishr, 1) := dw_at cX2_tryFrom_k11 (p := 10) rfl (by decide +kernel)
theorem dcX2_tryFrom_283 : decode cX2_tryFrom 283 = .ok (.iconst 1, 1) := dw_at cX2_tryFrom_k11 (p := 11) rfl (by decide +kernel)
theorem dcX2_tryFrom_284 : decode cX2_tryFrom 284 = .ok (.iand, 1) := dw_at cX2_tryFrom_k11 (p := 12) rfl (by decide +kernel)
theorem dcX2_tryFrom_285 : decode cX2_tryFrom 285 = .ok (.ifCond .ne 8, 3) := dw_at cX2_tryFrom_k11 (p := 13) rfl (by decide +kernel)
theorem dcX2_tryFrom_288 : decode cX2_tryFrom 288 = .ok (.iload 12, 2) := dw_at cX2_tryFrom_k11 (p := 16) rfl (by decide +kernel)
theorem dcX2_tryFrom_290 : decode cX2_tryFrom 290 = .ok (.goto 23, 3) := dw_at cX2_tryFrom_k11 (p := 18) rfl (by decide +kernel)
theorem dcX2_tryFrom_293 : decode cX2_tryFrom 293 = .ok (.iload 7, 2) := dw_at cX2_tryFrom_k11 (p := 21) rfl (by decide +kernel)
theorem dcX2_tryFrom_295 : decode cX2_tryFrom 295 = .ok (.iload 12, 2) := dw_at cX2_tryFrom_k11 (p := 23) rfl (by decide +kernel)
theorem dcX2_tryFrom_297 : decode cX2_tryFrom 297 = .ok (.iconst 1, 1) := dw_at cX2_tryFrom_k12 (p := 0) rfl (by decide +kernel)
theorem dcX2_tryFrom_298 : decode cX2_tryFrom 298 = .ok (.iadd, 1) := dw_at cX2_tryFrom_k12 (p := 1) rfl (by decide +kernel)
theorem dcX2_tryFrom_299 : decode cX2_tryFrom 299 = .ok (.ishr, 1) := dw_at cX2_tryFrom_k12 (p := 2) rfl (by decide +kernel)
theorem dcX2_tryFrom_300 : decode cX2_tryFrom 300 = .ok (.iconst 1, 1) := dw_at cX2_tryFrom_k12 (p := 3) rfl (by decide +kernel)
theorem dcX2_tryFrom_301 : decode cX2_tryFrom 301 = .ok (.iand, 1) := dw_at cX2_tryFrom_k12 (p := 4) rfl (by decide +kernel)
theorem dcX2_tryFrom_302 : decode cX2_tryFrom 302 = .ok (.ifCond .ne 10, 3) := dw_at cX2_tryFrom_k12 (p := 5) rfl (by decide +kernel)
theorem dcX2_tryFrom_305 : decode cX2_tryFrom 305 = .ok (.iload 12, 2) := dw_at cX2_tryFrom_k12 (p := 8) rfl (by decide +kernel)
theorem dcX2_tryFrom_307 : decode cX2_tryFrom 307 = .ok (.iconst 1, 1) := dw_at cX2_tryFrom_k12 (p := 10) rfl (by decide +kernel)
theorem dcX2_tryFrom_308 : decode cX2_tryFrom 308 = .ok (.iadd, 1) := dw_at cX2_tryFrom_k12 (p := 11) rfl (by decide +kernel)
theorem dcX2_tryFrom_309 : decode cX2_tryFrom 309 = .ok (.goto 4, 3) := dw_at cX2_tryFrom_k12 (p := 12) rfl (by decide +kernel)
theorem dcX2_tryFrom_312 : decode cX2_tryFrom 312 = .ok (.iconst (-1), 1) := dw_at cX2_tryFrom_k12 (p := 15) rfl (by decide +kernel)
theorem dcX2_tryFrom_313 : decode cX2_tryFrom 313 = .ok (.istore 9, 2) := dw_at cX2_tryFrom_k12 (p := 16) rfl (by decide +kernel)
theorem dcX2_tryFrom_315 : decode cX2_tryFrom 315 = .ok (.iinc 6 1, 3) := dw_at cX2_tryFrom_k12 (p := 18) rfl (by decide +kernel)
theorem dcX2_tryFrom_318 : decode cX2_tryFrom 318 = .ok (.goto (-64), 3) := dw_at cX2_tryFrom_k12 (p := 21) rfl (by decide +kernel)
theorem dcX2_tryFrom_321 : decode cX2_tryFrom 321 = .ok (.iinc 10 1, 3) := dw_at cX2_tryFrom_k13 (p := 0) rfl (by decide +kernel)
theorem dcX2_tryFrom_324 : decode cX2_tryFrom 324 = .ok (.goto (-271), 3) := dw_at cX2_tryFrom_k13 (p := 3) rfl (by decide +kernel)
theorem dcX2_tryFrom_327 : decode cX2_tryFrom 327 = .ok (.iload 4, 2) := dw_at cX2_tryFrom_k13 (p := 6) rfl (by decide +kernel)
theorem dcX2_tryFrom_329 : decode cX2_tryFrom 329 = .ok (.ifCond .eq 7, 3) := dw_at cX2_tryFrom_k13 (p := 8) rfl (by decide +kernel)
theorem dcX2_tryFrom_332 : decode cX2_tryFrom 332 = .ok (.iconst 0, 1) := dw_at cX2_tryFrom_k13 (p := 11) rfl (by decide +kernel)
theorem dcX2_tryFrom_333 : decode cX2_tryFrom 333 = .ok (.goto 5, 3) := dw_at cX2_tryFrom_k13 (p := 12) rfl (by decide +kernel)
theorem dcX2_tryFrom_336 : decode cX2_tryFrom 336 = .ok (.iload 8, 2) := dw_at cX2_tryFrom_k13 (p := 15) rfl (by decide +kernel)
theorem dcX2_tryFrom_338 : decode cX2_tryFrom 338 = .ok (.ireturn, 1) := dw_at cX2_tryFrom_k13 (p := 17) rfl (by decide +kernel)
def cm_X2_tryFrom_0 (vl : Nat → Nat) (K : Nat) (go : Nat → Int32 → Int32 → Int32 → Int32 → Int32 → Int32 → Int32 → Int32 → Int32 → Int32 → Int32 → Int32 → Nat → Nat → Nat → Int32 → ow_MS → Option (Int32 × ow_MS)) (x2 : Int32) (x4 : Int32) (x5 : Int32) (x6 : Int32) (x7 : Int32) (x8 : Int32) (x9 : Int32) (x10 : Int32) (x11 : Int32) (x12 : Int32) (x13 : Int32) (x14 : Int32) (r0 : Nat) (r1 : Nat) (r3 : Nat) (t0 : Int32) (z : ow_MS) : Option (Int32 × ow_MS) :=
 cs0 (ce_J7_fill_53178 vl K (r0 + 5) 0 z) fun z1 => crI (cX vl) z1 ((r0 + 2000) + 2) 0 fun v2 => (if v2 ≤ 0 then go 1 x2 0 0 0 0 0 0 0 0 0 0 0 r0 r1 ((r0 + 2000) + 1) 0 z1
 else go 1 x2 0 0 0 0 0 0 0 0 0 0 0 r0 r1 ((r0 + 2000) + 1) 1 z1)
def cm_X2_tryFrom_1 (vl : Nat → Nat) (K : Nat) (go : Nat → Int32 → Int32 → Int32 → Int32 → Int32 → Int32 → Int32 → Int32 → Int32 → Int32 → Int32 → Int32 → Nat → Nat → Nat → Int32 → ow_MS → Option (Int32 × ow_MS)) (x2 : Int32) (x4 : Int32) (x5 : Int32) (x6 : Int32) (x7 : Int32) (x8 : Int32) (x9 : Int32) (x10 : Int32) (x11 : Int32) (x12 : Int32) (x13 : Int32) (x14 : Int32) (r0 : Nat) (r1 : Nat) (r3 : Nat) (t0 : Int32) (z : ow_MS) : Option (Int32 × ow_MS) :=
 go 2 x2 t0 0 0 0 0 x2 0 0 0 0 0 r0 r1 r3 0 z
def cm_X2_tryFrom_2 (vl : Nat → Nat) (K : Nat) (go : Nat → Int32 → Int32 → Int32 → Int32 → Int32 → Int32 → Int32 → Int32 → Int32 → Int32 → Int32 → Int32 → Nat → Nat → Nat → Int32 → ow_MS → Option (Int32 × ow_MS)) (x2 : Int32) (x4 : Int32) (x5 : Int32) (x6 : Int32) (x7 : Int32) (x8 : Int32) (x9 : Int32) (x10 : Int32) (x11 : Int32) (x12 : Int32) (x13 : Int32) (x14 : Int32) (r0 : Nat) (r1 : Nat) (r3 : Nat) (t0 : Int32) (z : ow_MS) : Option (Int32 × ow_MS) :=
 (if 24 ≤ x10 then go 14 x2 x4 x5 x6 x7 x8 x9 x10 0 0 0 0 r0 r1 r3 0 z
 else (if x9 = (-1) then go 14 x2 x4 x5 x6 x7 x8 x9 x10 0 0 0 0 r0 r1 r3 0 z
 else go 3 x2 x4 x5 x6 x7 x8 x9 x10 x9 0 0 0 r0 r1 r3 0 z))
def cm_X2_tryFrom_3 (vl : Nat → Nat) (K : Nat) (go : Nat → Int32 → Int32 → Int32 → Int32 → Int32 → Int32 → Int32 → Int32 → Int32 → Int32 → Int32 → Int32 → Nat → Nat → Nat → Int32 → ow_MS → Option (Int32 × ow_MS)) (x2 : Int32) (x4 : Int32) (x5 : Int32) (x6 : Int32) (x7 : Int32) (x8 : Int32) (x9 : Int32) (x10 : Int32) (x11 : Int32) (x12 : Int32) (x13 : Int32) (x14 : Int32) (r0 : Nat) (r1 : Nat) (r3 : Nat) (t0 : Int32) (z : ow_MS) : Option (Int32 × ow_MS) :=
 (if 24 ≤ x12 then go 8 x2 x4 x5 x6 x7 x8 x9 x10 x11 x12 0 0 r0 r1 r3 0 z
 else crI (cX vl) z (r0 + 5) ((x11 : Int32) >>> ((1 : Int32) &&& 31)) fun v3 => (if v3 = 0 then ctI (cX vl) z (r0 + 6) x5 ((x11 : Int32) >>> ((1 : Int32) &&& 31)) fun z4 => ctI (cX vl) z4 (r0 + 5) ((x11 : Int32) >>> ((1 : Int32) &&& 31)) (x5 + 1) fun z5 => go 4 x2 x4 (x5 + 1) x6 x7 x8 x9 x10 x11 x12 ((x11 : Int32) >>> ((1 : Int32) &&& 31)) 0 r0 r1 r3 0 z5
 else go 4 x2 x4 x5 x6 x7 x8 x9 x10 x11 x12 ((x11 : Int32) >>> ((1 : Int32) &&& 31)) 0 r0 r1 r3 0 z))
def cm_X2_tryFrom_4 (vl : Nat → Nat) (K : Nat) (go : Nat → Int32 → Int32 → Int32 → Int32 → Int32 → Int32 → Int32 → Int32 → Int32 → Int32 → Int32 → Int32 → Nat → Nat → Nat → Int32 → ow_MS → Option (Int32 × ow_MS)) (x2 : Int32) (x4 : Int32) (x5 : Int32) (x6 : Int32) (x7 : Int32) (x8 : Int32) (x9 : Int32) (x10 : Int32) (x11 : Int32) (x12 : Int32) (x13 : Int32) (x14 : Int32) (r0 : Nat) (r1 : Nat) (r3 : Nat) (t0 : Int32) (z : ow_MS) : Option (Int32 × ow_MS) :=
 crI (cX vl) z (r0 + 5) x13 fun v6 => cs1 (ce_X2_firstCell vl K r1 x11 z) fun v8 z7 => (if x4 = 0 then go 5 x2 x4 x5 x6 x7 x8 x9 x10 x11 x12 x13 ((4 * (v6 - 1)) + v8) r0 r1 r3 0 z7
 else crI (cX vl) z7 r3 x8 fun v9 => (if ((4 * (v6 - 1)) + v8) ≤ v9 then go 5 x2 x4 x5 x6 x7 x8 x9 x10 x11 x12 x13 ((4 * (v6 - 1)) + v8) r0 r1 r3 0 z7
 else some (0, z7)))
def cm_X2_tryFrom_5 (vl : Nat → Nat) (K : Nat) (go : Nat → Int32 → Int32 → Int32 → Int32 → Int32 → Int32 → Int32 → Int32 → Int32 → Int32 → Int32 → Int32 → Nat → Nat → Nat → Int32 → ow_MS → Option (Int32 × ow_MS)) (x2 : Int32) (x4 : Int32) (x5 : Int32) (x6 : Int32) (x7 : Int32) (x8 : Int32) (x9 : Int32) (x10 : Int32) (x11 : Int32) (x12 : Int32) (x13 : Int32) (x14 : Int32) (r0 : Nat) (r1 : Nat) (r3 : Nat) (t0 : Int32) (z : ow_MS) : Option (Int32 × ow_MS) :=
 (if x4 = 0 then go 6 x2 x4 x5 x6 x7 x8 x9 x10 x11 x12 x13 x14 r0 r1 r3 0 z
 else crI (cX vl) z r3 x8 fun v10 => (if x14 = v10 then go 7 x2 x4 x5 x6 x7 x8 x9 x10 x11 x12 x13 x14 r0 r1 r3 1 z
 else go 6 x2 x4 x5 x6 x7 x8 x9 x10 x11 x12 x13 x14 r0 r1 r3 0 z))
def cm_X2_tryFrom_6 (vl : Nat → Nat) (K : Nat) (go : Nat → Int32 → Int32 → Int32 → Int32 → Int32 → Int32 → Int32 → Int32 → Int32 → Int32 → Int32 → Int32 → Nat → Nat → Nat → Int32 → ow_MS → Option (Int32 × ow_MS)) (x2 : Int32) (x4 : Int32) (x5 : Int32) (x6 : Int32) (x7 : Int32) (x8 : Int32) (x9 : Int32) (x10 : Int32) (x11 : Int32) (x12 : Int32) (x13 : Int32) (x14 : Int32) (r0 : Nat) (r1 : Nat) (r3 : Nat) (t0 : Int32) (z : ow_MS) : Option (Int32 × ow_MS) :=
 go 7 x2 x4 x5 x6 x7 x8 x9 x10 x11 x12 x13 x14 r0 r1 r3 0 z
def cm_X2_tryFrom_7 (vl : Nat → Nat) (K : Nat) (go : Nat → Int32 → Int32 → Int32 → Int32 → Int32 → Int32 → Int32 → Int32 → Int32 → Int32 → Int32 → Int32 → Nat → Nat → Nat → Int32 → ow_MS → Option (Int32 × ow_MS)) (x2 : Int32) (x4 : Int32) (x5 : Int32) (x6 : Int32) (x7 : Int32) (x8 : Int32) (x9 : Int32) (x10 : Int32) (x11 : Int32) (x12 : Int32) (x13 : Int32) (x14 : Int32) (r0 : Nat) (r1 : Nat) (r3 : Nat) (t0 : Int32) (z : ow_MS) : Option (Int32 × ow_MS) :=
 ctB (cX vl) z (r0 + 4) x8 x14.toInt8.toInt32 fun z11 => crI (cX vl) z11 (r1 + 1) x11 fun v12 => (if v12 = x9 then go 8 x2 t0 x5 x6 (x7 ||| ((1 : Int32) <<< ((x11 : Int32) &&& 31))) (x8 + 1) x9 x10 v12 x12 0 0 r0 r1 r3 0 z11
 else go 3 x2 t0 x5 x6 (x7 ||| ((1 : Int32) <<< ((x11 : Int32) &&& 31))) (x8 + 1) x9 x10 v12 (x12 + 1) 0 0 r0 r1 r3 0 z11)
def cm_X2_tryFrom_8 (vl : Nat → Nat) (K : Nat) (go : Nat → Int32 → Int32 → Int32 → Int32 → Int32 → Int32 → Int32 → Int32 → Int32 → Int32 → Int32 → Int32 → Nat → Nat → Nat → Int32 → ow_MS → Option (Int32 × ow_MS)) (x2 : Int32) (x4 : Int32) (x5 : Int32) (x6 : Int32) (x7 : Int32) (x8 : Int32) (x9 : Int32) (x10 : Int32) (x11 : Int32) (x12 : Int32) (x13 : Int32) (x14 : Int32) (r0 : Nat) (r1 : Nat) (r3 : Nat) (t0 : Int32) (z : ow_MS) : Option (Int32 × ow_MS) :=
 (if x4 = 0 then go 9 x2 x4 x5 x6 x7 x8 x9 x10 x11 x12 0 0 r0 r1 r3 0 z
 else crI (cX vl) z r3 x8 fun v13 => (if v13 = 0 then go 10 x2 x4 x5 x6 x7 x8 x9 x10 x11 x12 0 0 r0 r1 r3 1 z
 else go 9 x2 x4 x5 x6 x7 x8 x9 x10 x11 x12 0 0 r0 r1 r3 0 z))
def cm_X2_tryFrom_9 (vl : Nat → Nat) (K : Nat) (go : Nat → Int32 → Int32 → Int32 → Int32 → Int32 → Int32 → Int32 → Int32 → Int32 → Int32 → Int32 → Int32 → Nat → Nat → Nat → Int32 → ow_MS → Option (Int32 × ow_MS)) (x2 : Int32) (x4 : Int32) (x5 : Int32) (x6 : Int32) (x7 : Int32) (x8 : Int32) (x9 : Int32) (x10 : Int32) (x11 : Int32) (x12 : Int32) (x13 : Int32) (x14 : Int32) (r0 : Nat) (r1 : Nat) (r3 : Nat) (t0 : Int32) (z : ow_MS) : Option (Int32 × ow_MS) :=
 go 10 x2 x4 x5 x6 x7 x8 x9 x10 x11 x12 0 0 r0 r1 r3 0 z
def cm_X2_tryFrom_10 (vl : Nat → Nat) (K : Nat) (go : Nat → Int32 → Int32 → Int32 → Int32 → Int32 → Int32 → Int32 → Int32 → Int32 → Int32 → Int32 → Int32 → Nat → Nat → Nat → Int32 → ow_MS → Option (Int32 × ow_MS)) (x2 : Int32) (x4 : Int32) (x5 : Int32) (x6 : Int32) (x7 : Int32) (x8 : Int32) (x9 : Int32) (x10 : Int32) (x11 : Int32) (x12 : Int32) (x13 : Int32) (x14 : Int32) (r0 : Nat) (r1 : Nat) (r3 : Nat) (t0 : Int32) (z : ow_MS) : Option (Int32 × ow_MS) :=
 ctB (cX vl) z (r0 + 4) x8 0 fun z14 => go 11 x2 t0 x5 x6 x7 (x8 + 1) (-1) x10 x11 x12 0 0 r0 r1 r3 0 z14
def cm_X2_tryFrom_11 (vl : Nat → Nat) (K : Nat) (go : Nat → Int32 → Int32 → Int32 → Int32 → Int32 → Int32 → Int32 → Int32 → Int32 → Int32 → Int32 → Int32 → Nat → Nat → Nat → Int32 → ow_MS → Option (Int32 × ow_MS)) (x2 : Int32) (x4 : Int32) (x5 : Int32) (x6 : Int32) (x7 : Int32) (x8 : Int32) (x9 : Int32) (x10 : Int32) (x11 : Int32) (x12 : Int32) (x13 : Int32) (x14 : Int32) (r0 : Nat) (r1 : Nat) (r3 : Nat) (t0 : Int32) (z : ow_MS) : Option (Int32 × ow_MS) :=
 (if x5 ≤ x6 then go 13 x2 x4 x5 x6 x7 x8 x9 x10 x11 x12 0 0 r0 r1 r3 0 z
 else (if x9 = (-1) then crI (cX vl) z (r0 + 6) x6 fun v15 => (if (((x7 : Int32) >>> (((2 * v15) : Int32) &&& 31)) &&& 1) = 0 then go 12 x2 x4 x5 x6 x7 x8 x9 x10 x11 (2 * v15) 0 0 r0 r1 r3 (2 * v15) z
 else (if (((x7 : Int32) >>> ((((2 * v15) + 1) : Int32) &&& 31)) &&& 1) = 0 then go 12 x2 x4 x5 x6 x7 x8 x9 x10 x11 (2 * v15) 0 0 r0 r1 r3 ((2 * v15) + 1) z
 else go 12 x2 x4 x5 x6 x7 x8 x9 x10 x11 (2 * v15) 0 0 r0 r1 r3 (-1) z))
 else go 13 x2 x4 x5 x6 x7 x8 x9 x10 x11 x12 0 0 r0 r1 r3 0 z))
def cm_X2_tryFrom_12 (vl : Nat → Nat) (K : Nat) (go : Nat → Int32 → Int32 → Int32 → Int32 → Int32 → Int32 → Int32 → Int32 → Int32 → Int32 → Int32 → Int32 → Nat → Nat → Nat → Int32 → ow_MS → Option (Int32 × ow_MS)) (x2 : Int32) (x4 : Int32) (x5 : Int32) (x6 : Int32) (x7 : Int32) (x8 : Int32) (x9 : Int32) (x10 : Int32) (x11 : Int32) (x12 : Int32) (x13 : Int32) (x14 : Int32) (r0 : Nat) (r1 : Nat) (r3 : Nat) (t0 : Int32) (z : ow_MS) : Option (Int32 × ow_MS) :=
 go 11 x2 x4 x5 (x6 + 1) x7 x8 t0 x10 x11 x12 0 0 r0 r1 r3 0 z
def cm_X2_tryFrom_13 (vl : Nat → Nat) (K : Nat) (go : Nat → Int32 → Int32 → Int32 → Int32 → Int32 → Int32 → Int32 → Int32 → Int32 → Int32 → Int32 → Int32 → Nat → Nat → Nat → Int32 → ow_MS → Option (Int32 × ow_MS)) (x2 : Int32) (x4 : Int32) (x5 : Int32) (x6 : Int32) (x7 : Int32) (x8 : Int32) (x9 : Int32) (x10 : Int32) (x11 : Int32) (x12 : Int32) (x13 : Int32) (x14 : Int32) (r0 : Nat) (r1 : Nat) (r3 : Nat) (t0 : Int32) (z : ow_MS) : Option (Int32 × ow_MS) :=
 go 2 x2 x4 x5 x6 x7 x8 x9 (x10 + 1) 0 0 0 0 r0 r1 r3 0 z
def cm_X2_tryFrom_14 (vl : Nat → Nat) (K : Nat) (go : Nat → Int32 → Int32 → Int32 → Int32 → Int32 → Int32 → Int32 → Int32 → Int32 → Int32 → Int32 → Int32 → Nat → Nat → Nat → Int32 → ow_MS → Option (Int32 × ow_MS)) (x2 : Int32) (x4 : Int32) (x5 : Int32) (x6 : Int32) (x7 : Int32) (x8 : Int32) (x9 : Int32) (x10 : Int32) (x11 : Int32) (x12 : Int32) (x13 : Int32) (x14 : Int32) (r0 : Nat) (r1 : Nat) (r3 : Nat) (t0 : Int32) (z : ow_MS) : Option (Int32 × ow_MS) :=
 (if x4 = 0 then some (x8, z)
 else some (0, z))
def cb_X2_tryFrom (vl : Nat → Nat) (K : Nat) (go : Nat → Int32 → Int32 → Int32 → Int32 → Int32 → Int32 → Int32 → Int32 → Int32 → Int32 → Int32 → Int32 → Nat → Nat → Nat → Int32 → ow_MS → Option (Int32 × ow_MS)) (L : Nat) (x2 : Int32) (x4 : Int32) (x5 : Int32) (x6 : Int32) (x7 : Int32) (x8 : Int32) (x9 : Int32) (x10 : Int32) (x11 : Int32) (x12 : Int32) (x13 : Int32) (x14 : Int32) (r0 : Nat) (r1 : Nat) (r3 : Nat) (t0 : Int32) (z : ow_MS) : Option (Int32 × ow_MS) := match L with
  | 0 => cm_X2_tryFrom_0 vl K go x2 x4 x5 x6 x7 x8 x9 x10 x11 x12 x13 x14 r0 r1 r3 t0 z
  | 1 => cm_X2_tryFrom_1 vl K go x2 x4 x5 x6 x7 x8 x9 x10 x11 x12 x13 x14 r0 r1 r3 t0 z
  | 2 => cm_X2_tryFrom_2 vl K go x2 x4 x5 x6 x7 x8 x9 x10 x11 x12 x13 x14 r0 r1 r3 t0 z
  | 3 => cm_X2_tryFrom_3 vl K go x2 x4 x5 x6 x7 x8 x9 x10 x11 x12 x13 x14 r0 r1 r3 t0 z
  | 4 => cm_X2_tryFrom_4 vl K go x2 x4 x5 x6 x7 x8 x9 x10 x11 x12 x13 x14 r0 r1 r3 t0 z
  | 5 => cm_X2_tryFrom_5 vl K go x2 x4 x5 x6 x7 x8 x9 x10 x11 x12 x13 x14 r0 r1 r3 t0 z
  | 6 => cm_X2_tryFrom_6 vl K go x2 x4 x5 x6 x7 x8 x9 x10 x11 x12 x13 x14 r0 r1 r3 t0 z
  | 7 => cm_X2_tryFrom_7 vl K go x2 x4 x5 x6 x7 x8 x9 x10 x11 x12 x13 x14 r0 r1 r3 t0 z
  | 8 => cm_X2_tryFrom_8 vl K go x2 x4 x5 x6 x7 x8 x9 x10 x11 x12 x13 x14 r0 r1 r3 t0 z
  | 9 => cm_X2_tryFrom_9 vl K go x2 x4 x5 x6 x7 x8 x9 x10 x11 x12 x13 x14 r0 r1 r3 t0 z
  | 10 => cm_X2_tryFrom_10 vl K go x2 x4 x5 x6 x7 x8 x9 x10 x11 x12 x13 x14 r0 r1 r3 t0 z
  | 11 => cm_X2_tryFrom_11 vl K go x2 x4 x5 x6 x7 x8 x9 x10 x11 x12 x13 x14 r0 r1 r3 t0 z
  | 12 => cm_X2_tryFrom_12 vl K go x2 x4 x5 x6 x7 x8 x9 x10 x11 x12 x13 x14 r0 r1 r3 t0 z
  | 13 => cm_X2_tryFrom_13 vl K go x2 x4 x5 x6 x7 x8 x9 x10 x11 x12 x13 x14 r0 r1 r3 t0 z
  | 14 => cm_X2_tryFrom_14 vl K go x2 x4 x5 x6 x7 x8 x9 x10 x11 x12 x13 x14 r0 r1 r3 t0 z
  | _ => none
def c_X2_tryFrom (vl : Nat → Nat) (K : Nat) : Nat → Nat → Int32 → Int32 → Int32 → Int32 → Int32 → Int32 → Int32 → Int32 → Int32 → Int32 → Int32 → Int32 → Nat → Nat → Nat → Int32 → ow_MS → Option (Int32 × ow_MS)
  | 0 => fun _ _ _ _ _ _ _ _ _ _ _ _ _ _ _ _ _ _ => none
  | k + 1 => cb_X2_tryFrom vl K (c_X2_tryFrom vl K k)
def ce_X2_tryFrom (vl : Nat → Nat) (K : Nat) (r0 : Nat) (r1 : Nat) (x2 : Int32) (z : ow_MS) : Option (Int32 × ow_MS) := c_X2_tryFrom vl K K 0 x2 0 0 0 0 0 0 0 0 0 0 0 r0 r1 0 0 z
abbrev wc_X2_tryFrom : List Cond := .code yX2_tryFrom cX2_tryFrom 15 (some .int) :: wC
theorem cdd_X2_tryFrom : yX2_tryFrom.cls = RX2 ∧ yX2_tryFrom.cls ≠ "java/lang/invoke/MethodHandle" ∧ yX2_tryFrom.cls ≠ "java/lang/invoke/VarHandle" ∧ (parseMethodDescriptor yX2_tryFrom.desc).map (fun d => d.parameters.length) = some 2 := by decide +kernel
set_option maxHeartbeats 4000000 in
set_option maxRecDepth 100000 in
theorem kc_X2_tryFrom (l : Launch) (D : va_G) (q : Nat → ClassId) (vl u : Nat → Nat) (hU0 : tw_inj (cX vl) u) (K : Nat) (r0 : Nat) (r1 : Nat) (x2 : Int32) (hr0 : cw_X2 r0) (hr1 : cw_X7 r1) (z z1 : ow_MS) (r : Int32) (hq : ce_X2_tryFrom vl K r0 r1 x2 z = some (r, z1)) : Met l yX2_tryFrom wc_X2_tryFrom ({ frames := 1, cells := 0, slots := 0, locals := 23 } : Room) (va_Pc [.ref (u r0), .ref (u r1), .int x2] (cw_pre D q vl u z)) (va_Qi (fun x (_ : Unit) => x = r) (fun _ t => va_P D vwCl (uw (cX vl) q u z1) t.heap) (tw_A (cX vl) u)) 0 0 (tw_A (cX vl) u) := by
  refine Met.ofW (cc := cX2_tryFrom) (maxL := 15) (ret := (some .int)) (by decide) rfl ?_
  intro p e s m args below meth c s₁ B hml hv
  obtain ⟨rfl, hP, hK⟩ := hv
  have hx := B.exec
  have hb := B.bytes
  have hr := B.returns
  have hts := atoms_spec (ws := wc_X2_tryFrom) B.pre
  have hT : ∀ w ∈ wC, w.before ([.ref (u r0), .ref (u r1), .int x2] : List Value).toArray s = true := fun w h => hts w (List.mem_cons_of_mem _ h)
  have hown : s.vm.findClass RX2 = some m.cls := findClass_of_methodNamed B.named
  have hlocks := B.notSynchronized
  have hU : uw_inj (cX vl) u (tw_A (cX vl) u) := ⟨hU0, fun h hh => ⟨h, hh, rfl⟩⟩
  have hM : uw_M D vwCl (cX vl) q (tw_A (cX vl) u) s.heap u z s.heap [] := ⟨hP, va_S.rf⟩
  have hl := lv_entry ([.ref (u r0), .ref (u r1), .int x2]) (n := 15) (Nat.le_of_ble_eq_true rfl)
  rw [lg_entry_eq]
  generalize (lg_sl ([.ref (u r0), .ref (u r1), .int x2]) ++ List.replicate (15 - (lg_sl ([.ref (u r0), .ref (u r1), .int x2])).length) Slot.unset).toArray = ls at hl ⊢
  have hl : lv_has ls 15 [(0, .ref (u r0)), (1, .ref (u r1)), (2, .int x2)] := hl
  refine ow_named (fun QQ hQQ => ?_)
  generalize ([.ref (u r0), .ref (u r1), .int x2] : List Value).toArray = args at hts hT hQQ ⊢
  have key : ∀ k : Nat, (∀ (x2 : Int32) (x4 : Int32) (x5 : Int32) (x6 : Int32) (x7 : Int32) (x8 : Int32) (x9 : Int32) (x10 : Int32) (x11 : Int32) (x12 : Int32) (x13 : Int32) (x14 : Int32) (r0 : Nat) (r1 : Nat) (r3 : Nat) (t0 : Int32) (z : ow_MS) (H : Heap) (locs : List Loc) (ls : Array Slot), cw_X2 r0 → cw_X7 r1 → uw_M D vwCl (cX vl) q (tw_A (cX vl) u) s.heap u z H locs → lv_has ls 15 [(0, .ref (u r0)), (1, .ref (u r1)), (2, .int x2)] → c_X2_tryFrom vl K k 0 x2 x4 x5 x6 x7 x8 x9 x10 x11 x12 x13 x14 r0 r1 r3 t0 z = some (r, z1) → W p l e ({ frames := 1, cells := 0, slots := 0, locals := 23 } : Room) s m args below meth c H locs 0 0 QQ (F0 m 0 ls [])) ∧ (∀ (x2 : Int32) (x4 : Int32) (x5 : Int32) (x6 : Int32) (x7 : Int32) (x8 : Int32) (x9 : Int32) (x10 : Int32) (x11 : Int32) (x12 : Int32) (x13 : Int32) (x14 : Int32) (r0 : Nat) (r1 : Nat) (r3 : Nat) (t0 : Int32) (z : ow_MS) (H : Heap) (locs : List Loc) (ls : Array Slot), cw_X2 r0 → cw_X7 r1 → tw_in (cX vl) r3 1 → uw_M D vwCl (cX vl) q (tw_A (cX vl) u) s.heap u z H locs → lv_has ls 15 [(0, .ref (u r0)), (1, .ref (u r1)), (2, .int x2), (3, .ref (u r3))] → c_X2_tryFrom vl K k 1 x2 x4 x5 x6 x7 x8 x9 x10 x11 x12 x13 x14 r0 r1 r3 t0 z = some (r, z1) → W p l e ({ frames := 1, cells := 0, slots := 0, locals := 23 } : Room) s m args below meth c H locs 0 0 QQ (F0 m 33 ls [.int t0])) ∧ (∀ (x2 : Int32) (x4 : Int32) (x5 : Int32) (x6 : Int32) (x7 : Int32) (x8 : Int32) (x9 : Int32) (x10 : Int32) (x11 : Int32) (x12 : Int32) (x13 : Int32) (x14 : Int32) (r0 : Nat) (r1 : Nat) (r3 : Nat) (t0 : Int32) (z : ow_MS) (H : Heap) (locs : List Loc) (ls : Array Slot), cw_X2 r0 → cw_X7 r1 → tw_in (cX vl) r3 1 → uw_M D vwCl (cX vl) q (tw_A (cX vl) u) s.heap u z H locs → lv_has ls 15 [(0, .ref (u r0)), (1, .ref (u r1)), (2, .int x2), (3, .ref (u r3)), (4, .int x4), (5, .int x5), (6, .int x6), (7, .int x7), (8, .int x8), (9, .int x9), (10, .int x10)] → c_X2_tryFrom vl K k 2 x2 x4 x5 x6 x7 x8 x9 x10 x11 x12 x13 x14 r0 r1 r3 t0 z = some (r, z1) → W p l e ({ frames := 1, cells := 0, slots := 0, locals := 23 } : Room) s m args below meth c H locs 0 0 QQ (F0 m 53 ls [])) ∧ (∀ (x2 : Int32) (x4 : Int32) (x5 : Int32) (x6 : Int32) (x7 : Int32) (x8 : Int32) (x9 : Int32) (x10 : Int32) (x11 : Int32) (x12 : Int32) (x13 : Int32) (x14 : Int32) (r0 : Nat) (r1 : Nat) (r3 : Nat) (t0 : Int32) (z : ow_MS) (H : Heap) (locs : List Loc) (ls : Array Slot), cw_X2 r0 → cw_X7 r1 → tw_in (cX vl) r3 1 → uw_M D vwCl (cX vl) q (tw_A (cX vl) u) s.heap u z H locs → lv_has ls 15 [(0, .ref (u r0)), (1, .ref (u r1)), (2, .int x2), (3, .ref (u r3)), (4, .int x4), (5, .int x5), (6, .int x6), (7, .int x7), (8, .int x8), (9, .int x9), (10, .int x10), (11, .int x11), (12, .int x12)] → c_X2_tryFrom vl K k 3 x2 x4 x5 x6 x7 x8 x9 x10 x11 x12 x13 x14 r0 r1 r3 t0 z = some (r, z1) → W p l e ({ frames := 1, cells := 0, slots := 0, locals := 23 } : Room) s m args below meth c H locs 0 0 QQ (F0 m 73 ls [])) ∧ (∀ (x2 : Int32) (x4 : Int32) (x5 : Int32) (x6 : Int32) (x7 : Int32) (x8 : Int32) (x9 : Int32) (x10 : Int32) (x11 : Int32) (x12 : Int32) (x13 : Int32) (x14 : Int32) (r0 : Nat) (r1 : Nat) (r3 : Nat) (t0 : Int32) (z : ow_MS) (H : Heap) (locs : List Loc) (ls : Array Slot), cw_X2 r0 → cw_X7 r1 → tw_in (cX vl) r3 1 → uw_M D vwCl (cX vl) q (tw_A (cX vl) u) s.heap u z H locs → lv_has ls 15 [(0, .ref (u r0)), (1, .ref (u r1)), (2, .int x2), (3, .ref (u r3)), (4, .int x4), (5, .int x5), (6, .int x6), (7, .int x7), (8, .int x8), (9, .int x9), (10, .int x10), (11, .int x11), (12, .int x12), (13, .int x13)] → c_X2_tryFrom vl K k 4 x2 x4 x5 x6 x7 x8 x9 x10 x11 x12 x13 x14 r0 r1 r3 t0 z = some (r, z1) → W p l e ({ frames := 1, cells := 0, slots := 0, locals := 23 } : Room) s m args below meth c H locs 0 0 QQ (F0 m 117 ls [])) ∧ (∀ (x2 : Int32) (x4 : Int32) (x5 : Int32) (x6 : Int32) (x7 : Int32) (x8 : Int32) (x9 : Int32) (x10 : Int32) (x11 : Int32) (x12 : Int32) (x13 : Int32) (x14 : Int32) (r0 : Nat) (r1 : Nat) (r3 : Nat) (t0 : Int32) (z : ow_MS) (H : Heap) (locs : List Loc) (ls : Array Slot), cw_X2 r0 → cw_X7 r1 → tw_in (cX vl) r3 1 → uw_M D vwCl (cX vl) q (tw_A (cX vl) u) s.heap u z H locs → lv_has ls 15 [(0, .ref (u r0)), (1, .ref (u r1)), (2, .int x2), (3, .ref (u r3)), (4, .int x4), (5, .int x5), (6, .int x6), (7, .int x7), (8, .int x8), (9, .int x9), (10, .int x10), (11, .int x11), (12, .int x12), (13, .int x13), (14, .int x14)] → c_X2_tryFrom vl K k 5 x2 x4 x5 x6 x7 x8 x9 x10 x11 x12 x13 x14 r0 r1 r3 t0 z = some (r, z1) → W p l e ({ frames := 1, cells := 0, slots := 0, locals := 23 } : Room) s m args below meth c H locs 0 0 QQ (F0 m 153 ls [])) ∧ (∀ (x2 : Int32) (x4 : Int32) (x5 : Int32) (x6 : Int32) (x7 : Int32) (x8 : Int32) (x9 : Int32) (x10 : Int32) (x11 : Int32) (x12 : Int32) (x13 : Int32) (x14 : Int32) (r0 : Nat) (r1 : Nat) (r3 : Nat) (t0 : Int32) (z : ow_MS) (H : Heap) (locs : List Loc) (ls : Array Slot), cw_X2 r0 → cw_X7 r1 → tw_in (cX vl) r3 1 → uw_M D vwCl (cX vl) q (tw_A (cX vl) u) s.heap u z H locs → lv_has ls 15 [(0, .ref (u r0)), (1, .ref (u r1)), (2, .int x2), (3, .ref (u r3)), (4, .int x4), (5, .int x5), (6, .int x6), (7, .int x7), (8, .int x8), (9, .int x9), (10, .int x10), (11, .int x11), (12, .int x12), (13, .int x13), (14, .int x14)] → c_X2_tryFrom vl K k 6 x2 x4 x5 x6 x7 x8 x9 x10 x11 x12 x13 x14 r0 r1 r3 t0 z = some (r, z1) → W p l e ({ frames := 1, cells := 0, slots := 0, locals := 23 } : Room) s m args below meth c H locs 0 0 QQ (F0 m 171 ls [])) ∧ (∀ (x2 : Int32) (x4 : Int32) (x5 : Int32) (x6 : Int32) (x7 : Int32) (x8 : Int32) (x9 : Int32) (x10 : Int32) (x11 : Int32) (x12 : Int32) (x13 : Int32) (x14 : Int32) (r0 : Nat) (r1 : Nat) (r3 : Nat) (t0 : Int32) (z : ow_MS) (H : Heap) (locs : List Loc) (ls : Array Slot), cw_X2 r0 → cw_X7 r1 → tw_in (cX vl) r3 1 → uw_M D vwCl (cX vl) q (tw_A (cX vl) u) s.heap u z H locs → lv_has ls 15 [(0, .ref (u r0)), (1, .ref (u r1)), (2, .int x2), (3, .ref (u r3)), (4, .int x4), (5, .int x5), (6, .int x6), (7, .int x7), (8, .int x8), (9, .int x9), (10, .int x10), (11, .int x11), (12, .int x12), (13, .int x13), (14, .int x14)] → c_X2_tryFrom vl K k 7 x2 x4 x5 x6 x7 x8 x9 x10 x11 x12 x13 x14 r0 r1 r3 t0 z = some (r, z1) → W p l e ({ frames := 1, cells := 0, slots := 0, locals := 23 } : Room) s m args below meth c H locs 0 0 QQ (F0 m 172 ls [.int t0])) ∧ (∀ (x2 : Int32) (x4 : Int32) (x5 : Int32) (x6 : Int32) (x7 : Int32) (x8 : Int32) (x9 : Int32) (x10 : Int32) (x11 : Int32) (x12 : Int32) (x13 : Int32) (x14 : Int32) (r0 : Nat) (r1 : Nat) (r3 : Nat) (t0 : Int32) (z : ow_MS) (H : Heap) (locs : List Loc) (ls : Array Slot), cw_X2 r0 → cw_X7 r1 → tw_in (cX vl) r3 1 → uw_M D vwCl (cX vl) q (tw_A (cX vl) u) s.heap u z H locs → lv_has ls 15 [(0, .ref (u r0)), (1, .ref (u r1)), (2, .int x2), (3, .ref (u r3)), (4, .int x4), (5, .int x5), (6, .int x6), (7, .int x7), (8, .int x8), (9, .int x9), (10, .int x10), (11, .int x11), (12, .int x12)] → c_X2_tryFrom vl K k 8 x2 x4 x5 x6 x7 x8 x9 x10 x11 x12 x13 x14 r0 r1 r3 t0 z = some (r, z1) → W p l e ({ frames := 1, cells := 0, slots := 0, locals := 23 } : Room) s m args below meth c H locs 0 0 QQ (F0 m 221 ls [])) ∧ (∀ (x2 : Int32) (x4 : Int32) (x5 : Int32) (x6 : Int32) (x7 : Int32) (x8 : Int32) (x9 : Int32) (x10 : Int32) (x11 : Int32) (x12 : Int32) (x13 : Int32) (x14 : Int32) (r0 : Nat) (r1 : Nat) (r3 : Nat) (t0 : Int32) (z : ow_MS) (H : Heap) (locs : List Loc) (ls : Array Slot), cw_X2 r0 → cw_X7 r1 → tw_in (cX vl) r3 1 → uw_M D vwCl (cX vl) q (tw_A (cX vl) u) s.heap u z H locs → lv_has ls 15 [(0, .ref (u r0)), (1, .ref (u r1)), (2, .int x2), (3, .ref (u r3)), (4, .int x4), (5, .int x5), (6, .int x6), (7, .int x7), (8, .int x8), (9, .int x9), (10, .int x10), (11, .int x11), (12, .int x12)] → c_X2_tryFrom vl K k 9 x2 x4 x5 x6 x7 x8 x9 x10 x11 x12 x13 x14 r0 r1 r3 t0 z = some (r, z1) → W p l e ({ frames := 1, cells := 0, slots := 0, locals := 23 } : Room) s m args below meth c H locs 0 0 QQ (F0 m 237 ls [])) ∧ (∀ (x2 : Int32) (x4 : Int32) (x5 : Int32) (x6 : Int32) (x7 : Int32) (x8 : Int32) (x9 : Int32) (x10 : Int32) (x11 : Int32) (x12 : Int32) (x13 : Int32) (x14 : Int32) (r0 : Nat) (r1 : Nat) (r3 : Nat) (t0 : Int32) (z : ow_MS) (H : Heap) (locs : List Loc) (ls : Array Slot), cw_X2 r0 → cw_X7 r1 → tw_in (cX vl) r3 1 → uw_M D vwCl (cX vl) q (tw_A (cX vl) u) s.heap u z H locs → lv_has ls 15 [(0, .ref (u r0)), (1, .ref (u r1)), (2, .int x2), (3, .ref (u r3)), (4, .int x4), (5, .int x5), (6, .int x6), (7, .int x7), (8, .int x8), (9, .int x9), (10, .int x10), (11, .int x11), (12, .int x12)] → c_X2_tryFrom vl K k 10 x2 x4 x5 x6 x7 x8 x9 x10 x11 x12 x13 x14 r0 r1 r3 t0 z = some (r, z1) → W p l e ({ frames := 1, cells := 0, slots := 0, locals := 23 } : Room) s m args below meth c H locs 0 0 QQ (F0 m 238 ls [.int t0])) ∧ (∀ (x2 : Int32) (x4 : Int32) (x5 : Int32) (x6 : Int32) (x7 : Int32) (x8 : Int32) (x9 : Int32) (x10 : Int32) (x11 : Int32) (x12 : Int32) (x13 : Int32) (x14 : Int32) (r0 : Nat) (r1 : Nat) (r3 : Nat) (t0 : Int32) (z : ow_MS) (H : Heap) (locs : List Loc) (ls : Array Slot), cw_X2 r0 → cw_X7 r1 → tw_in (cX vl) r3 1 → uw_M D vwCl (cX vl) q (tw_A (cX vl) u) s.heap u z H locs → lv_has ls 15 [(0, .ref (u r0)), (1, .ref (u r1)), (2, .int x2), (3, .ref (u r3)), (4, .int x4), (5, .int x5), (6, .int x6), (7, .int x7), (8, .int x8), (9, .int x9), (10, .int x10), (11, .int x11), (12, .int x12)] → c_X2_tryFrom vl K k 11 x2 x4 x5 x6 x7 x8 x9 x10 x11 x12 x13 x14 r0 r1 r3 t0 z = some (r, z1) → W p l e ({ frames := 1, cells := 0, slots := 0, locals := 23 } : Room) s m args below meth c H locs 0 0 QQ (F0 m 254 ls [])) ∧ (∀ (x2 : Int32) (x4 : Int32) (x5 : Int32) (x6 : Int32) (x7 : Int32) (x8 : Int32) (x9 : Int32) (x10 : Int32) (x11 : Int32) (x12 : Int32) (x13 : Int32) (x14 : Int32) (r0 : Nat) (r1 : Nat) (r3 : Nat) (t0 : Int32) (z : ow_MS) (H : Heap) (locs : List Loc) (ls : Array Slot), cw_X2 r0 → cw_X7 r1 → tw_in (cX vl) r3 1 → uw_M D vwCl (cX vl) q (tw_A (cX vl) u) s.heap u z H locs → lv_has ls 15 [(0, .ref (u r0)), (1, .ref (u r1)), (2, .int x2), (3, .ref (u r3)), (4, .int x4), (5, .int x5), (6, .int x6), (7, .int x7), (8, .int x8), (9, .int x9), (10, .int x10), (11, .int x11), (12, .int x12)] → c_X2_tryFrom vl K k 12 x2 x4 x5 x6 x7 x8 x9 x10 x11 x12 x13 x14 r0 r1 r3 t0 z = some (r, z1) → W p l e ({ frames := 1, cells := 0, slots := 0, locals := 23 } : Room) s m args below meth c H locs 0 0 QQ (F0 m 313 ls [.int t0])) ∧ (∀ (x2 : Int32) (x4 : Int32) (x5 : Int32) (x6 : Int32) (x7 : Int32) (x8 : Int32) (x9 : Int32) (x10 : Int32) (x11 : Int32) (x12 : Int32) (x13 : Int32) (x14 : Int32) (r0 : Nat) (r1 : Nat) (r3 : Nat) (t0 : Int32) (z : ow_MS) (H : Heap) (locs : List Loc) (ls : Array Slot), cw_X2 r0 → cw_X7 r1 → tw_in (cX vl) r3 1 → uw_M D vwCl (cX vl) q (tw_A (cX vl) u) s.heap u z H locs → lv_has ls 15 [(0, .ref (u r0)), (1, .ref (u r1)), (2, .int x2), (3, .ref (u r3)), (4, .int x4), (5, .int x5), (6, .int x6), (7, .int x7), (8, .int x8), (9, .int x9), (10, .int x10), (11, .int x11), (12, .int x12)] → c_X2_tryFrom vl K k 13 x2 x4 x5 x6 x7 x8 x9 x10 x11 x12 x13 x14 r0 r1 r3 t0 z = some (r, z1) → W p l e ({ frames := 1, cells := 0, slots := 0, locals := 23 } : Room) s m args below meth c H locs 0 0 QQ (F0 m 321 ls [])) ∧ (∀ (x2 : Int32) (x4 : Int32) (x5 : Int32) (x6 : Int32) (x7 : Int32) (x8 : Int32) (x9 : Int32) (x10 : Int32) (x11 : Int32) (x12 : Int32) (x13 : Int32) (x14 : Int32) (r0 : Nat) (r1 : Nat) (r3 : Nat) (t0 : Int32) (z : ow_MS) (H : Heap) (locs : List Loc) (ls : Array Slot), cw_X2 r0 → cw_X7 r1 → tw_in (cX vl) r3 1 → uw_M D vwCl (cX vl) q (tw_A (cX vl) u) s.heap u z H locs → lv_has ls 15 [(0, .ref (u r0)), (1, .ref (u r1)), (2, .int x2), (3, .ref (u r3)), (4, .int x4), (5, .int x5), (6, .int x6), (7, .int x7), (8, .int x8), (9, .int x9), (10, .int x10)] → c_X2_tryFrom vl K k 14 x2 x4 x5 x6 x7 x8 x9 x10 x11 x12 x13 x14 r0 r1 r3 t0 z = some (r, z1) → W p l e ({ frames := 1, cells := 0, slots := 0, locals := 23 } : Room) s m args below meth c H locs 0 0 QQ (F0 m 327 ls [])) := by
    intro k
    induction k with
    | zero => exact ⟨fun _ _ _ _ _ _ _ _ _ _ _ _ _ _ _ _ _ _ _ _ _ _ _ _ hq => cw_no hq, fun _ _ _ _ _ _ _ _ _ _ _ _ _ _ _ _ _ _ _ _ _ _ _ _ _ hq => cw_no hq, fun _ _ _ _ _ _ _ _ _ _ _ _ _ _ _ _ _ _ _ _ _ _ _ _ _ hq => cw_no hq, fun _ _ _ _ _ _ _ _ _ _ _ _ _ _ _ _ _ _ _ _ _ _ _ _ _ hq => cw_no hq, fun _ _ _ _ _ _ _ _ _ _ _ _ _ _ _ _ _ _ _ _ _ _ _ _ _ hq => cw_no hq, fun _ _ _ _ _ _ _ _ _ _ _ _ _ _ _ _ _ _ _ _ _ _ _ _ _ hq => cw_no hq, fun _ _ _ _ _ _ _ _ _ _ _ _ _ _ _ _ _ _ _ _ _ _ _ _ _ hq => cw_no hq, fun _ _ _ _ _ _ _ _ _ _ _ _ _ _ _ _ _ _ _ _ _ _ _ _ _ hq => cw_no hq, fun _ _ _ _ _ _ _ _ _ _ _ _ _ _ _ _ _ _ _ _ _ _ _ _ _ hq => cw_no hq, fun _ _ _ _ _ _ _ _ _ _ _ _ _ _ _ _ _ _ _ _ _ _ _ _ _ hq => cw_no hq, fun _ _ _ _ _ _ _ _ _ _ _ _ _ _ _ _ _ _ _ _ _ _ _ _ _ hq => cw_no hq, fun _ _ _ _ _ _ _ _ _ _ _ _ _ _ _ _ _ _ _ _ _ _ _ _ _ hq => cw_no hq, fun _ _ _ _ _ _ _ _ _ _ _ _ _ _ _ _ _ _ _ _ _ _ _ _ _ hq => cw_no hq, fun _ _ _ _ _ _ _ _ _ _ _ _ _ _ _ _ _ _ _ _ _ _ _ _ _ hq => cw_no hq, fun _ _ _ _ _ _ _ _ _ _ _ _ _ _ _ _ _ _ _ _ _ _ _ _ _ hq => cw_no hq⟩
    | succ k ih =>
      obtain ⟨ih_0, ih_1, ih_2, ih_3, ih_4, ih_5, ih_6, ih_7, ih_8, ih_9, ih_10, ih_11, ih_12, ih_13, ih_14⟩ := ih
      refine ⟨?_, ?_, ?_, ?_, ?_, ?_, ?_, ?_, ?_, ?_, ?_, ?_, ?_, ?_, ?_⟩
      · intro x2 x4 x5 x6 x7 x8 x9 x10 x11 x12 x13 x14 r0 r1 r3 t0 z H locs ls hr0 hr1 hM hl hq
        have hq : cm_X2_tryFrom_0 vl K (c_X2_tryFrom vl K k) x2 x4 x5 x6 x7 x8 x9 x10 x11 x12 x13 x14 r0 r1 r3 t0 z = some (r, z1) := hq
        unfold cm_X2_tryFrom_0 at hq
        refine lv_aload_n hx hb dcX2_tryFrom_0 rfl (lv_at hl 0 rfl) ?_
        refine vgX2_30 hx hb hT hown hK hM hr0 dcX2_tryFrom_1 ?_
        refine lv_iconst (v := 0) hx hb dcX2_tryFrom_4 (by decide) ?_
        obtain ⟨z1, hcq, hq⟩ := tw_cl0 hq
        refine uw_calv hU hM (va_runS (As := [.ref (u (r0 + 5)), .int 0]) (rest := []) ⟨hx, hb, hml, hown, hts⟩ (kc_J7_fill_53178 l D q vl u hU.1 K (r0 + 5) 0 (cr_X2_4 hr0) z z1 hcq) (va_cwS 2 hts (tw_gS wC_good xq_309 xq_8 xq_9 xq_10) rfl rfl rfl cdd_J7_fill_53178 ⟨(Nat.le_of_ble_eq_true rfl), (Nat.le_of_ble_eq_true rfl)⟩) (cw_preS hK hM) rfl rfl hl.1 rfl (lv_room (Nat.le_of_ble_eq_true rfl)) dcX2_tryFrom_5 ⟨(Nat.le_of_ble_eq_true rfl), (Nat.le_of_ble_eq_true rfl)⟩) (fun H locs hM => ?_)
        refine lv_aload_n hx hb dcX2_tryFrom_8 rfl (lv_at hl 0 rfl) ?_
        refine vgX2_20 hx hb hT hown hK hM hr0 dcX2_tryFrom_9 ?_
        refine vgX2_51 hx hb hT hown hK hM (cs_X2_1 hr0) dcX2_tryFrom_12 ?_
        refine lv_astore_n (lv' := [(3, .ref (u ((r0 + 2000) + 1))), (0, .ref (u r0)), (1, .ref (u r1)), (2, .int x2)]) hx hb dcX2_tryFrom_15 rfl hl (by decide) rfl (fun ls hl => ?_)
        refine lv_aload_n hx hb dcX2_tryFrom_16 rfl (lv_at hl 1 rfl) ?_
        refine vgX2_20 hx hb hT hown hK hM hr0 dcX2_tryFrom_17 ?_
        refine vgX2_48 hx hb hT hown hK hM (cs_X2_1 hr0) dcX2_tryFrom_20 ?_
        refine lv_iconst (v := 0) hx hb dcX2_tryFrom_23 (by decide) ?_
        refine uw_bald cX_ok hx hb hK hM (cr_X3_1 (cs_X2_1 hr0)) hq dcX2_tryFrom_24 (fun v2 hq => ?_)
        refine lv_if_le (tgt := 32) hx hb dcX2_tryFrom_25 (by decide) (fun hc => ?_) (fun hc => ?_)
        · have hq := tw_it hq hc
          refine lv_iconst (v := 0) hx hb dcX2_tryFrom_32 (by decide) ?_
          exact ih_1 x2 0 0 0 0 0 0 0 0 0 0 0 r0 r1 ((r0 + 2000) + 1) 0 z1 H locs ls hr0 hr1 (cr_X3_0 (cs_X2_1 hr0)) hM (lv_sub hl [1, 2, 3, 0] rfl) hq
        · have hq := tw_if hq hc
          refine lv_iconst (v := 1) hx hb dcX2_tryFrom_28 (by decide) ?_
          refine lv_goto (tgt := 33) hx hb dcX2_tryFrom_29 (by decide) ?_
          exact ih_1 x2 0 0 0 0 0 0 0 0 0 0 0 r0 r1 ((r0 + 2000) + 1) 1 z1 H locs ls hr0 hr1 (cr_X3_0 (cs_X2_1 hr0)) hM (lv_sub hl [1, 2, 3, 0] rfl) hq
      · intro x2 x4 x5 x6 x7 x8 x9 x10 x11 x12 x13 x14 r0 r1 r3 t0 z H locs ls hr0 hr1 hr3 hM hl hq
        have hq : cm_X2_tryFrom_1 vl K (c_X2_tryFrom vl K k) x2 x4 x5 x6 x7 x8 x9 x10 x11 x12 x13 x14 r0 r1 r3 t0 z = some (r, z1) := hq
        unfold cm_X2_tryFrom_1 at hq
        refine lv_istore (lv' := [(4, .int t0), (0, .ref (u r0)), (1, .ref (u r1)), (2, .int x2), (3, .ref (u r3))]) hx hb dcX2_tryFrom_33 hl (by decide) rfl (fun ls hl => ?_)
        refine lv_iconst (v := 0) hx hb dcX2_tryFrom_35 (by decide) ?_
        refine lv_istore (lv' := [(5, .int 0), (4, .int t0), (0, .ref (u r0)), (1, .ref (u r1)), (2, .int x2), (3, .ref (u r3))]) hx hb dcX2_tryFrom_36 hl (by decide) rfl (fun ls hl => ?_)
        refine lv_iconst (v := 0) hx hb dcX2_tryFrom_38 (by decide) ?_
        refine lv_istore (lv' := [(6, .int 0), (5, .int 0), (4, .int t0), (0, .ref (u r0)), (1, .ref (u r1)), (2, .int x2), (3, .ref (u r3))]) hx hb dcX2_tryFrom_39 hl (by decide) rfl (fun ls hl => ?_)
        refine lv_iconst (v := 0) hx hb dcX2_tryFrom_41 (by decide) ?_
        refine lv_istore (lv' := [(7, .int 0), (6, .int 0), (5, .int 0), (4, .int t0), (0, .ref (u r0)), (1, .ref (u r1)), (2, .int x2), (3, .ref (u r3))]) hx hb dcX2_tryFrom_42 hl (by decide) rfl (fun ls hl => ?_)
        refine lv_iconst (v := 0) hx hb dcX2_tryFrom_44 (by decide) ?_
        refine lv_istore (lv' := [(8, .int 0), (7, .int 0), (6, .int 0), (5, .int 0), (4, .int t0), (0, .ref (u r0)), (1, .ref (u r1)), (2, .int x2), (3, .ref (u r3))]) hx hb dcX2_tryFrom_45 hl (by decide) rfl (fun ls hl => ?_)
        refine lv_iload_n hx hb dcX2_tryFrom_47 rfl (lv_at hl 7 rfl) ?_
        refine lv_istore (lv' := [(9, .int x2), (8, .int 0), (7, .int 0), (6, .int 0), (5, .int 0), (4, .int t0), (0, .ref (u r0)), (1, .ref (u r1)), (2, .int x2), (3, .ref (u r3))]) hx hb dcX2_tryFrom_48 hl (by decide) rfl (fun ls hl => ?_)
        refine lv_iconst (v := 0) hx hb dcX2_tryFrom_50 (by decide) ?_
        refine lv_istore (lv' := [(10, .int 0), (9, .int x2), (8, .int 0), (7, .int 0), (6, .int 0), (5, .int 0), (4, .int t0), (0, .ref (u r0)), (1, .ref (u r1)), (2, .int x2), (3, .ref (u r3))]) hx hb dcX2_tryFrom_51 hl (by decide) rfl (fun ls hl => ?_)
        exact ih_2 x2 t0 0 0 0 0 x2 0 0 0 0 0 r0 r1 r3 0 z H locs ls hr0 hr1 hr3 hM (lv_sub hl [7, 8, 9, 10, 6, 5, 4, 3, 2, 1, 0] rfl) hq
      · intro x2 x4 x5 x6 x7 x8 x9 x10 x11 x12 x13 x14 r0 r1 r3 t0 z H locs ls hr0 hr1 hr3 hM hl hq
        have hq : cm_X2_tryFrom_2 vl K (c_X2_tryFrom vl K k) x2 x4 x5 x6 x7 x8 x9 x10 x11 x12 x13 x14 r0 r1 r3 t0 z = some (r, z1) := hq
        unfold cm_X2_tryFrom_2 at hq
        refine lv_iload hx hb dcX2_tryFrom_53 (lv_at hl 10 rfl) ?_
        refine lv_bipush (v := 24) hx hb dcX2_tryFrom_55 (by decide) ?_
        refine lv_icmp_ge (tgt := 327) hx hb dcX2_tryFrom_57 (by decide) (fun hc => ?_) (fun hc => ?_)
        · have hq := tw_it hq hc
          exact ih_14 x2 x4 x5 x6 x7 x8 x9 x10 0 0 0 0 r0 r1 r3 0 z H locs ls hr0 hr1 hr3 hM (lv_sub hl [0, 1, 2, 3, 4, 5, 6, 7, 8, 9, 10] rfl) hq
        · have hq := tw_if hq hc
          refine lv_iload hx hb dcX2_tryFrom_60 (lv_at hl 9 rfl) ?_
          refine lv_iconst (v := (-1)) hx hb dcX2_tryFrom_62 (by decide) ?_
          refine lv_icmp_eq (tgt := 327) hx hb dcX2_tryFrom_63 (by decide) (fun hc => ?_) (fun hc => ?_)
          · have hq := tw_it hq hc
            exact ih_14 x2 x4 x5 x6 x7 x8 x9 x10 0 0 0 0 r0 r1 r3 0 z H locs ls hr0 hr1 hr3 hM (lv_sub hl [0, 1, 2, 3, 4, 5, 6, 7, 8, 9, 10] rfl) hq
          · have hq := tw_if hq hc
            refine lv_iload hx hb dcX2_tryFrom_66 (lv_at hl 9 rfl) ?_
            refine lv_istore (lv' := [(11, .int x9), (0, .ref (u r0)), (1, .ref (u r1)), (2, .int x2), (3, .ref (u r3)), (4, .int x4), (5, .int x5), (6, .int x6), (7, .int x7), (8, .int x8), (9, .int x9), (10, .int x10)]) hx hb dcX2_tryFrom_68 hl (by decide) rfl (fun ls hl => ?_)
            refine lv_iconst (v := 0) hx hb dcX2_tryFrom_70 (by decide) ?_
            refine lv_istore (lv' := [(12, .int 0), (11, .int x9), (0, .ref (u r0)), (1, .ref (u r1)), (2, .int x2), (3, .ref (u r3)), (4, .int x4), (5, .int x5), (6, .int x6), (7, .int x7), (8, .int x8), (9, .int x9), (10, .int x10)]) hx hb dcX2_tryFrom_71 hl (by decide) rfl (fun ls hl => ?_)
            exact ih_3 x2 x4 x5 x6 x7 x8 x9 x10 x9 0 0 0 r0 r1 r3 0 z H locs ls hr0 hr1 hr3 hM (lv_sub hl [2, 3, 4, 5, 6, 7, 8, 9, 10, 11, 12, 1, 0] rfl) hq
      · intro x2 x4 x5 x6 x7 x8 x9 x10 x11 x12 x13 x14 r0 r1 r3 t0 z H locs ls hr0 hr1 hr3 hM hl hq
        have hq : cm_X2_tryFrom_3 vl K (c_X2_tryFrom vl K k) x2 x4 x5 x6 x7 x8 x9 x10 x11 x12 x13 x14 r0 r1 r3 t0 z = some (r, z1) := hq
        unfold cm_X2_tryFrom_3 at hq
        refine lv_iload hx hb dcX2_tryFrom_73 (lv_at hl 12 rfl) ?_
        refine lv_bipush (v := 24) hx hb dcX2_tryFrom_75 (by decide) ?_
        refine lv_icmp_ge (tgt := 221) hx hb dcX2_tryFrom_77 (by decide) (fun hc => ?_) (fun hc => ?_)
        · have hq := tw_it hq hc
          exact ih_8 x2 x4 x5 x6 x7 x8 x9 x10 x11 x12 0 0 r0 r1 r3 0 z H locs ls hr0 hr1 hr3 hM (lv_sub hl [0, 1, 2, 3, 4, 5, 6, 7, 8, 9, 10, 11, 12] rfl) hq
        · have hq := tw_if hq hc
          refine lv_iload hx hb dcX2_tryFrom_80 (lv_at hl 11 rfl) ?_
          refine lv_iconst (v := 1) hx hb dcX2_tryFrom_82 (by decide) ?_
          refine lv_ishr hx hb dcX2_tryFrom_83 ?_
          refine lv_istore (lv' := [(13, .int ((x11 : Int32) >>> ((1 : Int32) &&& 31))), (0, .ref (u r0)), (1, .ref (u r1)), (2, .int x2), (3, .ref (u r3)), (4, .int x4), (5, .int x5), (6, .int x6), (7, .int x7), (8, .int x8), (9, .int x9), (10, .int x10), (11, .int x11), (12, .int x12)]) hx hb dcX2_tryFrom_84 hl (by decide) rfl (fun ls hl => ?_)
          refine lv_aload_n hx hb dcX2_tryFrom_86 rfl (lv_at hl 1 rfl) ?_
          refine vgX2_30 hx hb hT hown hK hM hr0 dcX2_tryFrom_87 ?_
          refine lv_iload hx hb dcX2_tryFrom_90 (lv_at hl 0 rfl) ?_
          refine uw_iald cX_ok hx hb hK hM (cr_X2_4 hr0) hq dcX2_tryFrom_92 (fun v3 hq => ?_)
          refine lv_if_ne (tgt := 117) hx hb dcX2_tryFrom_93 (by decide) (fun hc => ?_) (fun hc => ?_)
          · have hq := tw_if hq hc
            exact ih_4 x2 x4 x5 x6 x7 x8 x9 x10 x11 x12 ((x11 : Int32) >>> ((1 : Int32) &&& 31)) 0 r0 r1 r3 0 z H locs ls hr0 hr1 hr3 hM (lv_sub hl [1, 2, 3, 4, 5, 6, 7, 8, 9, 10, 11, 12, 13, 0] rfl) hq
          · have hq := tw_it hq hc
            refine lv_aload_n hx hb dcX2_tryFrom_96 rfl (lv_at hl 1 rfl) ?_
            refine vgX2_34 hx hb hT hown hK hM hr0 dcX2_tryFrom_97 ?_
            refine lv_iload hx hb dcX2_tryFrom_100 (lv_at hl 6 rfl) ?_
            refine lv_iload hx hb dcX2_tryFrom_102 (lv_at hl 0 rfl) ?_
            refine uw_iast cX_ok hU hx hb hK hM (cr_X2_5 hr0) hq dcX2_tryFrom_104 (fun z4 H locs hM hq => ?_)
            refine lv_iinc (v := (x5 + 1)) (lv' := [(5, .int (x5 + 1)), (13, .int ((x11 : Int32) >>> ((1 : Int32) &&& 31))), (0, .ref (u r0)), (1, .ref (u r1)), (2, .int x2), (3, .ref (u r3)), (4, .int x4), (6, .int x6), (7, .int x7), (8, .int x8), (9, .int x9), (10, .int x10), (11, .int x11), (12, .int x12)]) hx hb dcX2_tryFrom_105 hl (k := 6) rfl rfl (by decide) rfl (fun ls hl => ?_)
            refine lv_aload_n hx hb dcX2_tryFrom_108 rfl (lv_at hl 2 rfl) ?_
            refine vgX2_30 hx hb hT hown hK hM hr0 dcX2_tryFrom_109 ?_
            refine lv_iload hx hb dcX2_tryFrom_112 (lv_at hl 1 rfl) ?_
            refine lv_iload hx hb dcX2_tryFrom_114 (lv_at hl 0 rfl) ?_
            refine uw_iast cX_ok hU hx hb hK hM (cr_X2_4 hr0) hq dcX2_tryFrom_116 (fun z5 H locs hM hq => ?_)
            exact ih_4 x2 x4 (x5 + 1) x6 x7 x8 x9 x10 x11 x12 ((x11 : Int32) >>> ((1 : Int32) &&& 31)) 0 r0 r1 r3 0 z5 H locs ls hr0 hr1 hr3 hM (lv_sub hl [2, 3, 4, 5, 6, 0, 7, 8, 9, 10, 11, 12, 13, 1] rfl) hq
      · intro x2 x4 x5 x6 x7 x8 x9 x10 x11 x12 x13 x14 r0 r1 r3 t0 z H locs ls hr0 hr1 hr3 hM hl hq
        have hq : cm_X2_tryFrom_4 vl K (c_X2_tryFrom vl K k) x2 x4 x5 x6 x7 x8 x9 x10 x11 x12 x13 x14 r0 r1 r3 t0 z = some (r, z1) := hq
        unfold cm_X2_tryFrom_4 at hq
        refine lv_iconst (v := 4) hx hb dcX2_tryFrom_117 (by decide) ?_
        refine lv_aload_n hx hb dcX2_tryFrom_118 rfl (lv_at hl 0 rfl) ?_
        refine vgX2_30 hx hb hT hown hK hM hr0 dcX2_tryFrom_119 ?_
        refine lv_iload hx hb dcX2_tryFrom_122 (lv_at hl 13 rfl) ?_
        refine uw_iald cX_ok hx hb hK hM (cr_X2_4 hr0) hq dcX2_tryFrom_124 (fun v6 hq => ?_)
        refine lv_iconst (v := 1) hx hb dcX2_tryFrom_125 (by decide) ?_
        refine lv_isub hx hb dcX2_tryFrom_126 ?_
        refine lv_imul hx hb dcX2_tryFrom_127 ?_
        refine lv_aload_n hx hb dcX2_tryFrom_128 rfl (lv_at hl 1 rfl) ?_
        refine lv_iload hx hb dcX2_tryFrom_129 (lv_at hl 11 rfl) ?_
        obtain ⟨v8, z7, hcq, hq⟩ := tw_cl1 hq
        refine uw_cali hU hM (va_runS (As := [.ref (u r1), .int x11]) (rest := [.int (4 * (v6 - 1))]) ⟨hx, hb, hml, hown, hts⟩ (kc_X2_firstCell l D q vl u hU.1 K r1 x11 hr1 z z7 v8 hcq) (va_cwS 2 hts (tw_gS wC_good xq_298 xq_299 xq_283 xq_300) rfl rfl rfl cdd_X2_firstCell ⟨(Nat.le_of_ble_eq_true rfl), (Nat.le_of_ble_eq_true rfl)⟩) (cw_preS hK hM) rfl rfl hl.1 rfl (lv_room (Nat.le_of_ble_eq_true rfl)) dcX2_tryFrom_131 ⟨(Nat.le_of_ble_eq_true rfl), (Nat.le_of_ble_eq_true rfl)⟩) (fun H locs hM => ?_)
        refine lv_iadd hx hb dcX2_tryFrom_134 ?_
        refine lv_istore (lv' := [(14, .int ((4 * (v6 - 1)) + v8)), (0, .ref (u r0)), (1, .ref (u r1)), (2, .int x2), (3, .ref (u r3)), (4, .int x4), (5, .int x5), (6, .int x6), (7, .int x7), (8, .int x8), (9, .int x9), (10, .int x10), (11, .int x11), (12, .int x12), (13, .int x13)]) hx hb dcX2_tryFrom_135 hl (by decide) rfl (fun ls hl => ?_)
        refine lv_iload hx hb dcX2_tryFrom_137 (lv_at hl 5 rfl) ?_
        refine lv_if_eq (tgt := 153) hx hb dcX2_tryFrom_139 (by decide) (fun hc => ?_) (fun hc => ?_)
        · have hq := tw_it hq hc
          exact ih_5 x2 x4 x5 x6 x7 x8 x9 x10 x11 x12 x13 ((4 * (v6 - 1)) + v8) r0 r1 r3 0 z7 H locs ls hr0 hr1 hr3 hM (lv_sub hl [1, 2, 3, 4, 5, 6, 7, 8, 9, 10, 11, 12, 13, 14, 0] rfl) hq
        · have hq := tw_if hq hc
          refine lv_iload hx hb dcX2_tryFrom_142 (lv_at hl 0 rfl) ?_
          refine lv_aload_n hx hb dcX2_tryFrom_144 rfl (lv_at hl 4 rfl) ?_
          refine lv_iload hx hb dcX2_tryFrom_145 (lv_at hl 9 rfl) ?_
          refine uw_bald cX_ok hx hb hK hM hr3 hq dcX2_tryFrom_147 (fun v9 hq => ?_)
          refine lv_icmp_le (tgt := 153) hx hb dcX2_tryFrom_148 (by decide) (fun hc => ?_) (fun hc => ?_)
          · have hq := tw_it hq hc
            exact ih_5 x2 x4 x5 x6 x7 x8 x9 x10 x11 x12 x13 ((4 * (v6 - 1)) + v8) r0 r1 r3 0 z7 H locs ls hr0 hr1 hr3 hM (lv_sub hl [1, 2, 3, 4, 5, 6, 7, 8, 9, 10, 11, 12, 13, 14, 0] rfl) hq
          · have hq := tw_if hq hc
            refine lv_iconst (v := 0) hx hb dcX2_tryFrom_151 (by decide) ?_
            exact cw_iret hx hb hr hlocks hM hq hQQ dcX2_tryFrom_152
      · intro x2 x4 x5 x6 x7 x8 x9 x10 x11 x12 x13 x14 r0 r1 r3 t0 z H locs ls hr0 hr1 hr3 hM hl hq
        have hq : cm_X2_tryFrom_5 vl K (c_X2_tryFrom vl K k) x2 x4 x5 x6 x7 x8 x9 x10 x11 x12 x13 x14 r0 r1 r3 t0 z = some (r, z1) := hq
        unfold cm_X2_tryFrom_5 at hq
        refine lv_iload hx hb dcX2_tryFrom_153 (lv_at hl 4 rfl) ?_
        refine lv_if_eq (tgt := 171) hx hb dcX2_tryFrom_155 (by decide) (fun hc => ?_) (fun hc => ?_)
        · have hq := tw_it hq hc
          exact ih_6 x2 x4 x5 x6 x7 x8 x9 x10 x11 x12 x13 x14 r0 r1 r3 0 z H locs ls hr0 hr1 hr3 hM (lv_sub hl [0, 1, 2, 3, 4, 5, 6, 7, 8, 9, 10, 11, 12, 13, 14] rfl) hq
        · have hq := tw_if hq hc
          refine lv_iload hx hb dcX2_tryFrom_158 (lv_at hl 14 rfl) ?_
          refine lv_aload_n hx hb dcX2_tryFrom_160 rfl (lv_at hl 3 rfl) ?_
          refine lv_iload hx hb dcX2_tryFrom_161 (lv_at hl 8 rfl) ?_
          refine uw_bald cX_ok hx hb hK hM hr3 hq dcX2_tryFrom_163 (fun v10 hq => ?_)
          refine lv_icmp_ne (tgt := 171) hx hb dcX2_tryFrom_164 (by decide) (fun hc => ?_) (fun hc => ?_)
          · have hq := tw_if hq hc
            exact ih_6 x2 x4 x5 x6 x7 x8 x9 x10 x11 x12 x13 x14 r0 r1 r3 0 z H locs ls hr0 hr1 hr3 hM (lv_sub hl [0, 1, 2, 3, 4, 5, 6, 7, 8, 9, 10, 11, 12, 13, 14] rfl) hq
          · have hq := tw_it hq hc
            refine lv_iconst (v := 1) hx hb dcX2_tryFrom_167 (by decide) ?_
            refine lv_goto (tgt := 172) hx hb dcX2_tryFrom_168 (by decide) ?_
            exact ih_7 x2 x4 x5 x6 x7 x8 x9 x10 x11 x12 x13 x14 r0 r1 r3 1 z H locs ls hr0 hr1 hr3 hM (lv_sub hl [0, 1, 2, 3, 4, 5, 6, 7, 8, 9, 10, 11, 12, 13, 14] rfl) hq
      · intro x2 x4 x5 x6 x7 x8 x9 x10 x11 x12 x13 x14 r0 r1 r3 t0 z H locs ls hr0 hr1 hr3 hM hl hq
        have hq : cm_X2_tryFrom_6 vl K (c_X2_tryFrom vl K k) x2 x4 x5 x6 x7 x8 x9 x10 x11 x12 x13 x14 r0 r1 r3 t0 z = some (r, z1) := hq
        unfold cm_X2_tryFrom_6 at hq
        refine lv_iconst (v := 0) hx hb dcX2_tryFrom_171 (by decide) ?_
        exact ih_7 x2 x4 x5 x6 x7 x8 x9 x10 x11 x12 x13 x14 r0 r1 r3 0 z H locs ls hr0 hr1 hr3 hM (lv_sub hl [0, 1, 2, 3, 4, 5, 6, 7, 8, 9, 10, 11, 12, 13, 14] rfl) hq
      · intro x2 x4 x5 x6 x7 x8 x9 x10 x11 x12 x13 x14 r0 r1 r3 t0 z H locs ls hr0 hr1 hr3 hM hl hq
        have hq : cm_X2_tryFrom_7 vl K (c_X2_tryFrom vl K k) x2 x4 x5 x6 x7 x8 x9 x10 x11 x12 x13 x14 r0 r1 r3 t0 z = some (r, z1) := hq
        unfold cm_X2_tryFrom_7 at hq
        refine lv_istore (lv' := [(4, .int t0), (0, .ref (u r0)), (1, .ref (u r1)), (2, .int x2), (3, .ref (u r3)), (5, .int x5), (6, .int x6), (7, .int x7), (8, .int x8), (9, .int x9), (10, .int x10), (11, .int x11), (12, .int x12), (13, .int x13), (14, .int x14)]) hx hb dcX2_tryFrom_172 hl (by decide) rfl (fun ls hl => ?_)
        refine lv_aload_n hx hb dcX2_tryFrom_174 rfl (lv_at hl 1 rfl) ?_
        refine vgX2_26 hx hb hT hown hK hM hr0 dcX2_tryFrom_175 ?_
        refine lv_iload hx hb dcX2_tryFrom_178 (lv_at hl 8 rfl) ?_
        refine lv_iload hx hb dcX2_tryFrom_180 (lv_at hl 14 rfl) ?_
        refine lv_i2b hx hb dcX2_tryFrom_182 rfl ?_
        refine uw_bast cX_ok hU hx hb hK hM (cr_X2_3 hr0) hq dcX2_tryFrom_183 (fun z11 H locs hM hq => ?_)
        refine lv_iinc (v := (x8 + 1)) (lv' := [(8, .int (x8 + 1)), (4, .int t0), (0, .ref (u r0)), (1, .ref (u r1)), (2, .int x2), (3, .ref (u r3)), (5, .int x5), (6, .int x6), (7, .int x7), (9, .int x9), (10, .int x10), (11, .int x11), (12, .int x12), (13, .int x13), (14, .int x14)]) hx hb dcX2_tryFrom_184 hl (k := 8) rfl rfl (by decide) rfl (fun ls hl => ?_)
        refine lv_iload hx hb dcX2_tryFrom_187 (lv_at hl 8 rfl) ?_
        refine lv_iconst (v := 1) hx hb dcX2_tryFrom_189 (by decide) ?_
        refine lv_iload hx hb dcX2_tryFrom_190 (lv_at hl 11 rfl) ?_
        refine lv_ishl hx hb dcX2_tryFrom_192 ?_
        refine lv_ior hx hb dcX2_tryFrom_193 ?_
        refine lv_istore (lv' := [(7, .int (x7 ||| ((1 : Int32) <<< ((x11 : Int32) &&& 31)))), (8, .int (x8 + 1)), (4, .int t0), (0, .ref (u r0)), (1, .ref (u r1)), (2, .int x2), (3, .ref (u r3)), (5, .int x5), (6, .int x6), (9, .int x9), (10, .int x10), (11, .int x11), (12, .int x12), (13, .int x13), (14, .int x14)]) hx hb dcX2_tryFrom_194 hl (by decide) rfl (fun ls hl => ?_)
        refine lv_aload_n hx hb dcX2_tryFrom_196 rfl (lv_at hl 4 rfl) ?_
        refine vgX2_116 hx hb hT hown hK hM hr1 dcX2_tryFrom_197 ?_
        refine lv_iload hx hb dcX2_tryFrom_200 (lv_at hl 11 rfl) ?_
        refine uw_iald cX_ok hx hb hK hM (cr_X7_0 hr1) hq dcX2_tryFrom_202 (fun v12 hq => ?_)
        refine lv_istore (lv' := [(11, .int v12), (7, .int (x7 ||| ((1 : Int32) <<< ((x11 : Int32) &&& 31)))), (8, .int (x8 + 1)), (4, .int t0), (0, .ref (u r0)), (1, .ref (u r1)), (2, .int x2), (3, .ref (u r3)), (5, .int x5), (6, .int x6), (9, .int x9), (10, .int x10), (12, .int x12), (13, .int x13), (14, .int x14)]) hx hb dcX2_tryFrom_203 hl (by decide) rfl (fun ls hl => ?_)
        refine lv_iload hx hb dcX2_tryFrom_205 (lv_at hl 0 rfl) ?_
        refine lv_iload hx hb dcX2_tryFrom_207 (lv_at hl 10 rfl) ?_
        refine lv_icmp_ne (tgt := 215) hx hb dcX2_tryFrom_209 (by decide) (fun hc => ?_) (fun hc => ?_)
        · have hq := tw_if hq hc
          refine lv_iinc (v := (x12 + 1)) (lv' := [(12, .int (x12 + 1)), (11, .int v12), (7, .int (x7 ||| ((1 : Int32) <<< ((x11 : Int32) &&& 31)))), (8, .int (x8 + 1)), (4, .int t0), (0, .ref (u r0)), (1, .ref (u r1)), (2, .int x2), (3, .ref (u r3)), (5, .int x5), (6, .int x6), (9, .int x9), (10, .int x10), (13, .int x13), (14, .int x14)]) hx hb dcX2_tryFrom_215 hl (k := 12) rfl rfl (by decide) rfl (fun ls hl => ?_)
          refine lv_goto (tgt := 73) hx hb dcX2_tryFrom_218 (by decide) ?_
          exact ih_3 x2 t0 x5 x6 (x7 ||| ((1 : Int32) <<< ((x11 : Int32) &&& 31))) (x8 + 1) x9 x10 v12 (x12 + 1) 0 0 r0 r1 r3 0 z11 H locs ls hr0 hr1 hr3 hM (lv_sub hl [5, 6, 7, 8, 4, 9, 10, 2, 3, 11, 12, 1, 0] rfl) hq
        · have hq := tw_it hq hc
          refine lv_goto (tgt := 221) hx hb dcX2_tryFrom_212 (by decide) ?_
          exact ih_8 x2 t0 x5 x6 (x7 ||| ((1 : Int32) <<< ((x11 : Int32) &&& 31))) (x8 + 1) x9 x10 v12 x12 0 0 r0 r1 r3 0 z11 H locs ls hr0 hr1 hr3 hM (lv_sub hl [4, 5, 6, 7, 3, 8, 9, 1, 2, 10, 11, 0, 12] rfl) hq
      · intro x2 x4 x5 x6 x7 x8 x9 x10 x11 x12 x13 x14 r0 r1 r3 t0 z H locs ls hr0 hr1 hr3 hM hl hq
        have hq : cm_X2_tryFrom_8 vl K (c_X2_tryFrom vl K k) x2 x4 x5 x6 x7 x8 x9 x10 x11 x12 x13 x14 r0 r1 r3 t0 z = some (r, z1) := hq
        unfold cm_X2_tryFrom_8 at hq
        refine lv_iload hx hb dcX2_tryFrom_221 (lv_at hl 4 rfl) ?_
        refine lv_if_eq (tgt := 237) hx hb dcX2_tryFrom_223 (by decide) (fun hc => ?_) (fun hc => ?_)
        · have hq := tw_it hq hc
          exact ih_9 x2 x4 x5 x6 x7 x8 x9 x10 x11 x12 0 0 r0 r1 r3 0 z H locs ls hr0 hr1 hr3 hM (lv_sub hl [0, 1, 2, 3, 4, 5, 6, 7, 8, 9, 10, 11, 12] rfl) hq
        · have hq := tw_if hq hc
          refine lv_aload_n hx hb dcX2_tryFrom_226 rfl (lv_at hl 3 rfl) ?_
          refine lv_iload hx hb dcX2_tryFrom_227 (lv_at hl 8 rfl) ?_
          refine uw_bald cX_ok hx hb hK hM hr3 hq dcX2_tryFrom_229 (fun v13 hq => ?_)
          refine lv_if_ne (tgt := 237) hx hb dcX2_tryFrom_230 (by decide) (fun hc => ?_) (fun hc => ?_)
          · have hq := tw_if hq hc
            exact ih_9 x2 x4 x5 x6 x7 x8 x9 x10 x11 x12 0 0 r0 r1 r3 0 z H locs ls hr0 hr1 hr3 hM (lv_sub hl [0, 1, 2, 3, 4, 5, 6, 7, 8, 9, 10, 11, 12] rfl) hq
          · have hq := tw_it hq hc
            refine lv_iconst (v := 1) hx hb dcX2_tryFrom_233 (by decide) ?_
            refine lv_goto (tgt := 238) hx hb dcX2_tryFrom_234 (by decide) ?_
            exact ih_10 x2 x4 x5 x6 x7 x8 x9 x10 x11 x12 0 0 r0 r1 r3 1 z H locs ls hr0 hr1 hr3 hM (lv_sub hl [0, 1, 2, 3, 4, 5, 6, 7, 8, 9, 10, 11, 12] rfl) hq
      · intro x2 x4 x5 x6 x7 x8 x9 x10 x11 x12 x13 x14 r0 r1 r3 t0 z H locs ls hr0 hr1 hr3 hM hl hq
        have hq : cm_X2_tryFrom_9 vl K (c_X2_tryFrom vl K k) x2 x4 x5 x6 x7 x8 x9 x10 x11 x12 x13 x14 r0 r1 r3 t0 z = some (r, z1) := hq
        unfold cm_X2_tryFrom_9 at hq
        refine lv_iconst (v := 0) hx hb dcX2_tryFrom_237 (by decide) ?_
        exact ih_10 x2 x4 x5 x6 x7 x8 x9 x10 x11 x12 0 0 r0 r1 r3 0 z H locs ls hr0 hr1 hr3 hM (lv_sub hl [0, 1, 2, 3, 4, 5, 6, 7, 8, 9, 10, 11, 12] rfl) hq
      · intro x2 x4 x5 x6 x7 x8 x9 x10 x11 x12 x13 x14 r0 r1 r3 t0 z H locs ls hr0 hr1 hr3 hM hl hq
        have hq : cm_X2_tryFrom_10 vl K (c_X2_tryFrom vl K k) x2 x4 x5 x6 x7 x8 x9 x10 x11 x12 x13 x14 r0 r1 r3 t0 z = some (r, z1) := hq
        unfold cm_X2_tryFrom_10 at hq
        refine lv_istore (lv' := [(4, .int t0), (0, .ref (u r0)), (1, .ref (u r1)), (2, .int x2), (3, .ref (u r3)), (5, .int x5), (6, .int x6), (7, .int x7), (8, .int x8), (9, .int x9), (10, .int x10), (11, .int x11), (12, .int x12)]) hx hb dcX2_tryFrom_238 hl (by decide) rfl (fun ls hl => ?_)
        refine lv_aload_n hx hb dcX2_tryFrom_240 rfl (lv_at hl 1 rfl) ?_
        refine vgX2_26 hx hb hT hown hK hM hr0 dcX2_tryFrom_241 ?_
        refine lv_iload hx hb dcX2_tryFrom_244 (lv_at hl 8 rfl) ?_
        refine lv_iconst (v := 0) hx hb dcX2_tryFrom_246 (by decide) ?_
        refine uw_bast cX_ok hU hx hb hK hM (cr_X2_3 hr0) hq dcX2_tryFrom_247 (fun z14 H locs hM hq => ?_)
        refine lv_iinc (v := (x8 + 1)) (lv' := [(8, .int (x8 + 1)), (4, .int t0), (0, .ref (u r0)), (1, .ref (u r1)), (2, .int x2), (3, .ref (u r3)), (5, .int x5), (6, .int x6), (7, .int x7), (9, .int x9), (10, .int x10), (11, .int x11), (12, .int x12)]) hx hb dcX2_tryFrom_248 hl (k := 8) rfl rfl (by decide) rfl (fun ls hl => ?_)
        refine lv_iconst (v := (-1)) hx hb dcX2_tryFrom_251 (by decide) ?_
        refine lv_istore (lv' := [(9, .int (-1)), (8, .int (x8 + 1)), (4, .int t0), (0, .ref (u r0)), (1, .ref (u r1)), (2, .int x2), (3, .ref (u r3)), (5, .int x5), (6, .int x6), (7, .int x7), (10, .int x10), (11, .int x11), (12, .int x12)]) hx hb dcX2_tryFrom_252 hl (by decide) rfl (fun ls hl => ?_)
        exact ih_11 x2 t0 x5 x6 x7 (x8 + 1) (-1) x10 x11 x12 0 0 r0 r1 r3 0 z14 H locs ls hr0 hr1 hr3 hM (lv_sub hl [3, 4, 5, 6, 2, 7, 8, 9, 1, 0, 10, 11, 12] rfl) hq
      · intro x2 x4 x5 x6 x7 x8 x9 x10 x11 x12 x13 x14 r0 r1 r3 t0 z H locs ls hr0 hr1 hr3 hM hl hq
        have hq : cm_X2_tryFrom_11 vl K (c_X2_tryFrom vl K k) x2 x4 x5 x6 x7 x8 x9 x10 x11 x12 x13 x14 r0 r1 r3 t0 z = some (r, z1) := hq
        unfold cm_X2_tryFrom_11 at hq
        refine lv_iload hx hb dcX2_tryFrom_254 (lv_at hl 6 rfl) ?_
        refine lv_iload hx hb dcX2_tryFrom_256 (lv_at hl 5 rfl) ?_
        refine lv_icmp_ge (tgt := 321) hx hb dcX2_tryFrom_258 (by decide) (fun hc => ?_) (fun hc => ?_)
        · have hq := tw_it hq hc
          exact ih_13 x2 x4 x5 x6 x7 x8 x9 x10 x11 x12 0 0 r0 r1 r3 0 z H locs ls hr0 hr1 hr3 hM (lv_sub hl [0, 1, 2, 3, 4, 5, 6, 7, 8, 9, 10, 11, 12] rfl) hq
        · have hq := tw_if hq hc
          refine lv_iload hx hb dcX2_tryFrom_261 (lv_at hl 9 rfl) ?_
          refine lv_iconst (v := (-1)) hx hb dcX2_tryFrom_263 (by decide) ?_
          refine lv_icmp_ne (tgt := 321) hx hb dcX2_tryFrom_264 (by decide) (fun hc => ?_) (fun hc => ?_)
          · have hq := tw_if hq hc
            exact ih_13 x2 x4 x5 x6 x7 x8 x9 x10 x11 x12 0 0 r0 r1 r3 0 z H locs ls hr0 hr1 hr3 hM (lv_sub hl [0, 1, 2, 3, 4, 5, 6, 7, 8, 9, 10, 11, 12] rfl) hq
          · have hq := tw_it hq hc
            refine lv_iconst (v := 2) hx hb dcX2_tryFrom_267 (by decide) ?_
            refine lv_aload_n hx hb dcX2_tryFrom_268 rfl (lv_at hl 0 rfl) ?_
            refine vgX2_34 hx hb hT hown hK hM hr0 dcX2_tryFrom_269 ?_
            refine lv_iload hx hb dcX2_tryFrom_272 (lv_at hl 6 rfl) ?_
            refine uw_iald cX_ok hx hb hK hM (cr_X2_5 hr0) hq dcX2_tryFrom_274 (fun v15 hq => ?_)
            refine lv_imul hx hb dcX2_tryFrom_275 ?_
            refine lv_istore (lv' := [(12, .int (2 * v15)), (0, .ref (u r0)), (1, .ref (u r1)), (2, .int x2), (3, .ref (u r3)), (4, .int x4), (5, .int x5), (6, .int x6), (7, .int x7), (8, .int x8), (9, .int x9), (10, .int x10), (11, .int x11)]) hx hb dcX2_tryFrom_276 hl (by decide) rfl (fun ls hl => ?_)
            refine lv_iload hx hb dcX2_tryFrom_278 (lv_at hl 8 rfl) ?_
            refine lv_iload hx hb dcX2_tryFrom_280 (lv_at hl 0 rfl) ?_
            refine lv_ishr hx hb dcX2_tryFrom_282 ?_
            refine lv_iconst (v := 1) hx hb dcX2_tryFrom_283 (by decide) ?_
            refine lv_iand hx hb dcX2_tryFrom_284 ?_
            refine lv_if_ne (tgt := 293) hx hb dcX2_tryFrom_285 (by decide) (fun hc => ?_) (fun hc => ?_)
            · have hq := tw_if hq hc
              refine lv_iload hx hb dcX2_tryFrom_293 (lv_at hl 8 rfl) ?_
              refine lv_iload hx hb dcX2_tryFrom_295 (lv_at hl 0 rfl) ?_
              refine lv_iconst (v := 1) hx hb dcX2_tryFrom_297 (by decide) ?_
              refine lv_iadd hx hb dcX2_tryFrom_298 ?_
              refine lv_ishr hx hb dcX2_tryFrom_299 ?_
              refine lv_iconst (v := 1) hx hb dcX2_tryFrom_300 (by decide) ?_
              refine lv_iand hx hb dcX2_tryFrom_301 ?_
              refine lv_if_ne (tgt := 312) hx hb dcX2_tryFrom_302 (by decide) (fun hc => ?_) (fun hc => ?_)
              · have hq := tw_if hq hc
                refine lv_iconst (v := (-1)) hx hb dcX2_tryFrom_312 (by decide) ?_
                exact ih_12 x2 x4 x5 x6 x7 x8 x9 x10 x11 (2 * v15) 0 0 r0 r1 r3 (-1) z H locs ls hr0 hr1 hr3 hM (lv_sub hl [1, 2, 3, 4, 5, 6, 7, 8, 9, 10, 11, 12, 0] rfl) hq
              · have hq := tw_it hq hc
                refine lv_iload hx hb dcX2_tryFrom_305 (lv_at hl 0 rfl) ?_
                refine lv_iconst (v := 1) hx hb dcX2_tryFrom_307 (by decide) ?_
                refine lv_iadd hx hb dcX2_tryFrom_308 ?_
                refine lv_goto (tgt := 313) hx hb dcX2_tryFrom_309 (by decide) ?_
                exact ih_12 x2 x4 x5 x6 x7 x8 x9 x10 x11 (2 * v15) 0 0 r0 r1 r3 ((2 * v15) + 1) z H locs ls hr0 hr1 hr3 hM (lv_sub hl [1, 2, 3, 4, 5, 6, 7, 8, 9, 10, 11, 12, 0] rfl) hq
            · have hq := tw_it hq hc
              refine lv_iload hx hb dcX2_tryFrom_288 (lv_at hl 0 rfl) ?_
              refine lv_goto (tgt := 313) hx hb dcX2_tryFrom_290 (by decide) ?_
              exact ih_12 x2 x4 x5 x6 x7 x8 x9 x10 x11 (2 * v15) 0 0 r0 r1 r3 (2 * v15) z H locs ls hr0 hr1 hr3 hM (lv_sub hl [1, 2, 3, 4, 5, 6, 7, 8, 9, 10, 11, 12, 0] rfl) hq
      · intro x2 x4 x5 x6 x7 x8 x9 x10 x11 x12 x13 x14 r0 r1 r3 t0 z H locs ls hr0 hr1 hr3 hM hl hq
        have hq : cm_X2_tryFrom_12 vl K (c_X2_tryFrom vl K k) x2 x4 x5 x6 x7 x8 x9 x10 x11 x12 x13 x14 r0 r1 r3 t0 z = some (r, z1) := hq
        unfold cm_X2_tryFrom_12 at hq
        refine lv_istore (lv' := [(9, .int t0), (0, .ref (u r0)), (1, .ref (u r1)), (2, .int x2), (3, .ref (u r3)), (4, .int x4), (5, .int x5), (6, .int x6), (7, .int x7), (8, .int x8), (10, .int x10), (11, .int x11), (12, .int x12)]) hx hb dcX2_tryFrom_313 hl (by decide) rfl (fun ls hl => ?_)
        refine lv_iinc (v := (x6 + 1)) (lv' := [(6, .int (x6 + 1)), (9, .int t0), (0, .ref (u r0)), (1, .ref (u r1)), (2, .int x2), (3, .ref (u r3)), (4, .int x4), (5, .int x5), (7, .int x7), (8, .int x8), (10, .int x10), (11, .int x11), (12, .int x12)]) hx hb dcX2_tryFrom_315 hl (k := 7) rfl rfl (by decide) rfl (fun ls hl => ?_)
        refine lv_goto (tgt := 254) hx hb dcX2_tryFrom_318 (by decide) ?_
        exact ih_11 x2 x4 x5 (x6 + 1) x7 x8 t0 x10 x11 x12 0 0 r0 r1 r3 0 z H locs ls hr0 hr1 hr3 hM (lv_sub hl [2, 3, 4, 5, 6, 7, 0, 8, 9, 1, 10, 11, 12] rfl) hq
      · intro x2 x4 x5 x6 x7 x8 x9 x10 x11 x12 x13 x14 r0 r1 r3 t0 z H locs ls hr0 hr1 hr3 hM hl hq
        have hq : cm_X2_tryFrom_13 vl K (c_X2_tryFrom vl K k) x2 x4 x5 x6 x7 x8 x9 x10 x11 x12 x13 x14 r0 r1 r3 t0 z = some (r, z1) := hq
        unfold cm_X2_tryFrom_13 at hq
        refine lv_iinc (v := (x10 + 1)) (lv' := [(10, .int (x10 + 1)), (0, .ref (u r0)), (1, .ref (u r1)), (2, .int x2), (3, .ref (u r3)), (4, .int x4), (5, .int x5), (6, .int x6), (7, .int x7), (8, .int x8), (9, .int x9), (11, .int x11), (12, .int x12)]) hx hb dcX2_tryFrom_321 hl (k := 10) rfl rfl (by decide) rfl (fun ls hl => ?_)
        refine lv_goto (tgt := 53) hx hb dcX2_tryFrom_324 (by decide) ?_
        exact ih_2 x2 x4 x5 x6 x7 x8 x9 (x10 + 1) 0 0 0 0 r0 r1 r3 0 z H locs ls hr0 hr1 hr3 hM (lv_sub hl [1, 2, 3, 4, 5, 6, 7, 8, 9, 10, 0] rfl) hq
      · intro x2 x4 x5 x6 x7 x8 x9 x10 x11 x12 x13 x14 r0 r1 r3 t0 z H locs ls hr0 hr1 hr3 hM hl hq
        have hq : cm_X2_tryFrom_14 vl K (c_X2_tryFrom vl K k) x2 x4 x5 x6 x7 x8 x9 x10 x11 x12 x13 x14 r0 r1 r3 t0 z = some (r, z1) := hq
        unfold cm_X2_tryFrom_14 at hq
        refine lv_iload hx hb dcX2_tryFrom_327 (lv_at hl 4 rfl) ?_
        refine lv_if_eq (tgt := 336) hx hb dcX2_tryFrom_329 (by decide) (fun hc => ?_) (fun hc => ?_)
        · have hq := tw_it hq hc
          refine lv_iload hx hb dcX2_tryFrom_336 (lv_at hl 8 rfl) ?_
          exact cw_iret hx hb hr hlocks hM hq hQQ dcX2_tryFrom_338
        · have hq := tw_if hq hc
          refine lv_iconst (v := 0) hx hb dcX2_tryFrom_332 (by decide) ?_
          refine lv_goto (tgt := 338) hx hb dcX2_tryFrom_333 (by decide) ?_
          exact cw_iret hx hb hr hlocks hM hq hQQ dcX2_tryFrom_338
  exact (key K).1 x2 0 0 0 0 0 0 0 0 0 0 0 r0 r1 0 0 z s.heap [] ls hr0 hr1 hM (lv_sub hl [0, 1, 2] rfl) hq
theorem dcX2_encodePart_0 : decode cX2_encodePart 0 = .ok (.aload_n 1, 1) := dw_at cX2_encodePart_k0 (p := 0) rfl (by decide +kernel)
theorem dcX2_encodePart_1 : decode cX2_encodePart 1 = .ok (.iload_n 2, 1) := dw_at cX2_encodePart_k0 (p := 1) rfl (by decide +kernel)
theorem dcX2_encodePart_2 : decode cX2_encodePart 2 = .ok (.invokestatic 88, 3) := dw_at cX2_encodePart_k0 (p := 2) rfl (by decide +kernel)
theorem dcX2_encodePart_5 : decode cX2_encodePart 5 = .ok (.istore_n 3, 1) := dw_at cX2_encodePart_k0 (p := 5) rfl (by decide +kernel)
theorem dcX2_encodePart_6 : decode cX2_encodePart 6 = .ok (.iconst 0, 1) := dw_at cX2_encodePart_k0 (p := 6) rfl (by decide +kernel)
theorem dcX2_encodePart_7 : decode cX2_encodePart 7 = .ok (.istore 4, 2) := dw_at cX2_encodePart_k0 (p := 7) rfl (by decide +kernel)
theorem dcX2_encodePart_9 : decode cX2_encodePart 9 = .ok (.aload_n 0, 1) := dw_at cX2_encodePart_k0 (p := 9) rfl (by decide +kernel)
theorem dcX2_encodePart_10 : decode cX2_encodePart 10 = .ok (.getfield 20, 3) := dw_at cX2_encodePart_k0 (p := 10) rfl (by decide +kernel)
theorem dcX2_encodePart_13 : decode cX2_encodePart 13 = .ok (.getfield 48, 3) := dw_at cX2_encodePart_k0 (p := 13) rfl (by decide +kernel)
theorem dcX2_encodePart_16 : decode cX2_encodePart 16 = .ok (.iconst 0, 1) := dw_at cX2_encodePart_k0 (p := 16) rfl (by decide +kernel)
theorem dcX2_encodePart_17 : decode cX2_encodePart 17 = .ok (.iconst 0, 1) := dw_at cX2_encodePart_k0 (p := 17) rfl (by decide +kernel)
theorem dcX2_encodePart_18 : decode cX2_encodePart 18 = .ok (.bastore, 1) := dw_at cX2_encodePart_k0 (p := 18) rfl (by decide +kernel)
theorem dcX2_encodePart_19 : decode cX2_encodePart 19 = .ok (.iconst 0, 1) := dw_at cX2_encodePart_k0 (p := 19) rfl (by decide +kernel)
theorem dcX2_encodePart_20 : decode cX2_encodePart 20 = .ok (.istore 5, 2) := dw_at cX2_encodePart_k0 (p := 20) rfl (by decide +kernel)
theorem dcX2_encodePart_22 : decode cX2_encodePart 22 = .ok (.iload 5, 2) := dw_at cX2_encodePart_k0 (p := 22) rfl (by decide +kernel)
theorem dcX2_encodePart_24 : decode cX2_encodePart 24 = .ok (.iconst 2, 1) := dw_at cX2_encodePart_k1 (p := 0) rfl (by decide +kernel)
theorem dcX2_encodePart_25 : decode cX2_encodePart 25 = .ok (.aload_n 1, 1) := dw_at cX2_encodePart_k1 (p := 1) rfl (by decide +kernel)
theorem dcX2_encodePart_26 : decode cX2_encodePart 26 = .ok (.getfield 68, 3) := dw_at cX2_encodePart_k1 (p := 2) rfl (by decide +kernel)
theorem dcX2_encodePart_29 : decode cX2_encodePart 29 = .ok (.imul, 1) := dw_at cX2_encodePart_k1 (p := 5) rfl (by decide +kernel)
theorem dcX2_encodePart_30 : decode cX2_encodePart 30 = .ok (.if_icmp .ge 87, 3) := dw_at cX2_encodePart_k1 (p := 6) rfl (by decide +kernel)
theorem dcX2_encodePart_33 : decode cX2_encodePart 33 = .ok (.aload_n 1, 1) := dw_at cX2_encodePart_k1 (p := 9) rfl (by decide +kernel)
theorem dcX2_encodePart_34 : decode cX2_encodePart 34 = .ok (.getfield 92, 3) := dw_at cX2_encodePart_k1 (p := 10) rfl (by decide +kernel)
theorem dcX2_encodePart_37 : decode cX2_encodePart 37 = .ok (.iload 5, 2) := dw_at cX2_encodePart_k1 (p := 13) rfl (by decide +kernel)
theorem dcX2_encodePart_39 : decode cX2_encodePart 39 = .ok (.iaload, 1) := dw_at cX2_encodePart_k1 (p := 15) rfl (by decide +kernel)
theorem dcX2_encodePart_40 : decode cX2_encodePart 40 = .ok (.iload_n 2, 1) := dw_at cX2_encodePart_k1 (p := 16) rfl (by decide +kernel)
theorem dcX2_encodePart_41 : decode cX2_encodePart 41 = .ok (.if_icmp .eq 6, 3) := dw_at cX2_encodePart_k1 (p := 17) rfl (by decide +kernel)
theorem dcX2_encodePart_44 : decode cX2_encodePart 44 = .ok (.goto 67, 3) := dw_at cX2_encodePart_k1 (p := 20) rfl (by decide +kernel)
theorem dcX2_encodePart_47 : decode cX2_encodePart 47 = .ok (.iinc 4 1, 3) := dw_at cX2_encodePart_k1 (p := 23) rfl (by decide +kernel)
theorem dcX2_encodePart_50 : decode cX2_encodePart 50 = .ok (.aload_n 1, 1) := dw_at cX2_encodePart_k2 (p := 0) rfl (by decide +kernel)
theorem dcX2_encodePart_51 : decode cX2_encodePart 51 = .ok (.iload 5, 2) := dw_at cX2_encodePart_k2 (p := 1) rfl (by decide +kernel)
theorem dcX2_encodePart_53 : decode cX2_encodePart 53 = .ok (.invokestatic 95, 3) := dw_at cX2_encodePart_k2 (p := 3) rfl (by decide +kernel)
theorem dcX2_encodePart_56 : decode cX2_encodePart 56 = .ok (.iload_n 3, 1) := dw_at cX2_encodePart_k2 (p := 6) rfl (by decide +kernel)
theorem dcX2_encodePart_57 : decode cX2_encodePart 57 = .ok (.if_icmp .ne 54, 3) := dw_at cX2_encodePart_k2 (p := 7) rfl (by decide +kernel)
theorem dcX2_encodePart_60 : decode cX2_encodePart 60 = .ok (.aload_n 0, 1) := dw_at cX2_encodePart_k2 (p := 10) rfl (by decide +kernel)
theorem dcX2_encodePart_61 : decode cX2_encodePart 61 = .ok (.aload_n 1, 1) := dw_at cX2_encodePart_k2 (p := 11) rfl (by decide +kernel)
theorem dcX2_encodePart_62 : decode cX2_encodePart 62 = .ok (.iload 5, 2) := dw_at cX2_encodePart_k2 (p := 12) rfl (by decide +kernel)
theorem dcX2_encodePart_64 : decode cX2_encodePart 64 = .ok (.invokevirtual 98, 3) := dw_at cX2_encodePart_k2 (p := 14) rfl (by decide +kernel)
theorem dcX2_encodePart_67 : decode cX2_encodePart 67 = .ok (.istore 6, 2) := dw_at cX2_encodePart_k2 (p := 17) rfl (by decide +kernel)
theorem dcX2_encodePart_69 : decode cX2_encodePart 69 = .ok (.iload 6, 2) := dw_at cX2_encodePart_k2 (p := 19) rfl (by decide +kernel)
theorem dcX2_encodePart_71 : decode cX2_encodePart 71 = .ok (.ifCond .le 40, 3) := dw_at cX2_encodePart_k2 (p := 21) rfl (by decide +kernel)
theorem dcX2_encodePart_74 : decode cX2_encodePart 74 = .ok (.iload 6, 2) := dw_at cX2_encodePart_k3 (p := 0) rfl (by decide +kernel)
theorem dcX2_encodePart_76 : decode cX2_encodePart 76 = .ok (.bipush 30, 2) := dw_at cX2_encodePart_k3 (p := 2) rfl (by decide +kernel)
theorem dcX2_encodePart_78 : decode cX2_encodePart 78 = .ok (.if_icmp .gt 33, 3) := dw_at cX2_encodePart_k3 (p := 4) rfl (by decide +kernel)
theorem dcX2_encodePart_81 : decode cX2_encodePart 81 = .ok (.aload_n 0, 1) := dw_at cX2_encodePart_k3 (p := 7) rfl (by decide +kernel)
theorem dcX2_encodePart_82 : decode cX2_encodePart 82 = .ok (.getfield 26, 3) := dw_at cX2_encodePart_k3 (p := 8) rfl (by decide +kernel)
theorem dcX2_encodePart_85 : decode cX2_encodePart 85 = .ok (.iconst 0, 1) := dw_at cX2_encodePart_k3 (p := 11) rfl (by decide +kernel)
theorem dcX2_encodePart_86 : decode cX2_encodePart 86 = .ok (.aload_n 0, 1) := dw_at cX2_encodePart_k3 (p := 12) rfl (by decide +kernel)
theorem dcX2_encodePart_87 : decode cX2_encodePart 87 = .ok (.getfield 20, 3) := dw_at cX2_encodePart_k3 (p := 13) rfl (by decide +kernel)
theorem dcX2_encodePart_90 : decode cX2_encodePart 90 = .ok (.getfield 51, 3) := dw_at cX2_encodePart_k3 (p := 16) rfl (by decide +kernel)
theorem dcX2_encodePart_93 : decode cX2_encodePart 93 = .ok (.iconst 0, 1) := dw_at cX2_encodePart_k3 (p := 19) rfl (by decide +kernel)
theorem dcX2_encodePart_94 : decode cX2_encodePart 94 = .ok (.iload 6, 2) := dw_at cX2_encodePart_k3 (p := 20) rfl (by decide +kernel)
theorem dcX2_encodePart_96 : decode cX2_encodePart 96 = .ok (.invokestatic 54, 3) := dw_at cX2_encodePart_k3 (p := 22) rfl (by decide +kernel)
theorem dcX2_encodePart_99 : decode cX2_encodePart 99 = .ok (.aload_n 0, 1) := dw_at cX2_encodePart_k4 (p := 0) rfl (by decide +kernel)
theorem dcX2_encodePart_100 : decode cX2_encodePart 100 = .ok (.getfield 20, 3) := dw_at cX2_encodePart_k4 (p := 1) rfl (by decide +kernel)
theorem dcX2_encodePart_103 : decode cX2_encodePart 103 = .ok (.getfield 48, 3) := dw_at cX2_encodePart_k4 (p := 4) rfl (by decide +kernel)
theorem dcX2_encodePart_106 : decode cX2_encodePart 106 = .ok (.iconst 0, 1) := dw_at cX2_encodePart_k4 (p := 7) rfl (by decide +kernel)
theorem dcX2_encodePart_107 : decode cX2_encodePart 107 = .ok (.iload 6, 2) := dw_at cX2_encodePart_k4 (p := 8) rfl (by decide +kernel)
theorem dcX2_encodePart_109 : decode cX2_encodePart 109 = .ok (.i2b, 1) := dw_at cX2_encodePart_k4 (p := 10) rfl (by decide +kernel)
theorem dcX2_encodePart_110 : decode cX2_encodePart 110 = .ok (.bastore, 1) := dw_at cX2_encodePart_k4 (p := 11) rfl (by decide +kernel)
theorem dcX2_encodePart_111 : decode cX2_encodePart 111 = .ok (.iinc 5 1, 3) := dw_at cX2_encodePart_k4 (p := 12) rfl (by decide +kernel)
theorem dcX2_encodePart_114 : decode cX2_encodePart 114 = .ok (.goto (-92), 3) := dw_at cX2_encodePart_k4 (p := 15) rfl (by decide +kernel)
theorem dcX2_encodePart_117 : decode cX2_encodePart 117 = .ok (.aload_n 0, 1) := dw_at cX2_encodePart_k4 (p := 18) rfl (by decide +kernel)
theorem dcX2_encodePart_118 : decode cX2_encodePart 118 = .ok (.getfield 20, 3) := dw_at cX2_encodePart_k4 (p := 19) rfl (by decide +kernel)
theorem dcX2_encodePart_121 : decode cX2_encodePart 121 = .ok (.getfield 65, 3) := dw_at cX2_encodePart_k4 (p := 22) rfl (by decide +kernel)
theorem dcX2_encodePart_124 : decode cX2_encodePart 124 = .ok (.iconst 0, 1) := dw_at cX2_encodePart_k5 (p := 0) rfl (by decide +kernel)
theorem dcX2_encodePart_125 : decode cX2_encodePart 125 = .ok (.iload 4, 2) := dw_at cX2_encodePart_k5 (p := 1) rfl (by decide +kernel)
theorem dcX2_encodePart_127 : decode cX2_encodePart 127 = .ok (.iconst 2, 1) := dw_at cX2_encodePart_k5 (p := 3) rfl (by decide +kernel)
theorem dcX2_encodePart_128 : decode cX2_encodePart 128 = .ok (.idiv, 1) := dw_at cX2_encodePart_k5 (p := 4) rfl (by decide +kernel)
theorem dcX2_encodePart_129 : decode cX2_encodePart 129 = .ok (.i2b, 1) := dw_at cX2_encodePart_k5 (p := 5) rfl (by decide +kernel)
theorem dcX2_encodePart_130 : decode cX2_encodePart 130 = .ok (.bastore, 1) := dw_at cX2_encodePart_k5 (p := 6) rfl (by decide +kernel)
theorem dcX2_encodePart_131 : decode cX2_encodePart 131 = .ok (.return_, 1) := dw_at cX2_encodePart_k5 (p := 7) rfl (by decide +kernel)
def cm_X2_encodePart_0 (vl : Nat → Nat) (K : Nat) (go : Nat → Int32 → Int32 → Int32 → Int32 → Nat → Nat → ow_MS → Option ow_MS) (x2 : Int32) (x3 : Int32) (x4 : Int32) (x5 : Int32) (r0 : Nat) (r1 : Nat) (z : ow_MS) : Option ow_MS :=
 cs1 (ce_X2_leastFirstCell vl K r1 x2 z) fun v2 z1 => ctB (cX vl) z1 ((r0 + 2000) + 2) 0 0 fun z3 => go 1 x2 v2 0 0 r0 r1 z3
def cm_X2_encodePart_1 (vl : Nat → Nat) (K : Nat) (go : Nat → Int32 → Int32 → Int32 → Int32 → Nat → Nat → ow_MS → Option ow_MS) (x2 : Int32) (x3 : Int32) (x4 : Int32) (x5 : Int32) (r0 : Nat) (r1 : Nat) (z : ow_MS) : Option ow_MS :=
 rdF z (r1 + 8) fun v4 => (if (2 * v4) ≤ x5 then nzI 2 (ctB (cX vl) z ((r0 + 2000) + 3) 0 ((x4 / 2).toInt8.toInt32) fun z5 => some z5)
 else crI (cX vl) z (r1 + 6) x5 fun v6 => (if v6 = x2 then cs1 (ce_X2_firstCell vl K r1 x5 z) fun v8 z7 => (if v8 = x3 then cs1 (ce_X2_tryFrom vl K r0 r1 x5 z7) fun v10 z9 => (if v10 ≤ 0 then go 2 x2 x3 (x4 + 1) x5 r0 r1 z9
 else (if 30 < v10 then go 2 x2 x3 (x4 + 1) x5 r0 r1 z9
 else cpB (cX vl) z9 (r0 + 4) 0 ((r0 + 2000) + 1) 0 v10 fun z11 => ctB (cX vl) z11 ((r0 + 2000) + 2) 0 v10.toInt8.toInt32 fun z12 => go 2 x2 x3 (x4 + 1) x5 r0 r1 z12))
 else go 2 x2 x3 (x4 + 1) x5 r0 r1 z7)
 else go 2 x2 x3 x4 x5 r0 r1 z))
def cm_X2_encodePart_2 (vl : Nat → Nat) (K : Nat) (go : Nat → Int32 → Int32 → Int32 → Int32 → Nat → Nat → ow_MS → Option ow_MS) (x2 : Int32) (x3 : Int32) (x4 : Int32) (x5 : Int32) (r0 : Nat) (r1 : Nat) (z : ow_MS) : Option ow_MS :=
 go 1 x2 x3 x4 (x5 + 1) r0 r1 z
def cb_X2_encodePart (vl : Nat → Nat) (K : Nat) (go : Nat → Int32 → Int32 → Int32 → Int32 → Nat → Nat → ow_MS → Option ow_MS) (L : Nat) (x2 : Int32) (x3 : Int32) (x4 : Int32) (x5 : Int32) (r0 : Nat) (r1 : Nat) (z : ow_MS) : Option ow_MS := match L with
  | 0 => cm_X2_encodePart_0 vl K go x2 x3 x4 x5 r0 r1 z
  | 1 => cm_X2_encodePart_1 vl K go x2 x3 x4 x5 r0 r1 z
  | 2 => cm_X2_encodePart_2 vl K go x2 x3 x4 x5 r0 r1 z
  | _ => none
def c_X2_encodePart (vl : Nat → Nat) (K : Nat) : Nat → Nat → Int32 → Int32 → Int32 → Int32 → Nat → Nat → ow_MS → Option ow_MS
  | 0 => fun _ _ _ _ _ _ _ _ => none
  | k + 1 => cb_X2_encodePart vl K (c_X2_encodePart vl K k)
def ce_X2_encodePart (vl : Nat → Nat) (K : Nat) (r0 : Nat) (r1 : Nat) (x2 : Int32) (z : ow_MS) : Option ow_MS := c_X2_encodePart vl K K 0 x2 0 0 0 r0 r1 z
abbrev wc_X2_encodePart : List Cond := .code yX2_encodePart cX2_encodePart 7 none :: wC
theorem cdd_X2_encodePart : yX2_encodePart.cls = RX2 ∧ yX2_encodePart.cls ≠ "java/lang/invoke/MethodHandle" ∧ yX2_encodePart.cls ≠ "java/lang/invoke/VarHandle" ∧ (parseMethodDescriptor yX2_encodePart.desc).map (fun d => d.parameters.length) = some 2 := by decide +kernel
set_option maxHeartbeats 4000000 in
set_option maxRecDepth 100000 in
theorem kc_X2_encodePart (l : Launch) (D : va_G) (q : Nat → ClassId) (vl u : Nat → Nat) (hU0 : tw_inj (cX vl) u) (K : Nat) (r0 : Nat) (r1 : Nat) (x2 : Int32) (hr0 : cw_X2 r0) (hr1 : cw_X7 r1) (z z1 : ow_MS) (hq : ce_X2_encodePart vl K r0 r1 x2 z = some z1) : Met l yX2_encodePart wc_X2_encodePart ({ frames := 2, cells := 0, slots := 0, locals := 60 } : Room) (va_Pc [.ref (u r0), .ref (u r1), .int x2] (cw_pre D q vl u z)) (va_Qv (fun (_ : Unit) => True) (fun _ t => va_P D vwCl (uw (cX vl) q u z1) t.heap) (tw_A (cX vl) u)) 0 0 (tw_A (cX vl) u) := by
  refine Met.ofW (cc := cX2_encodePart) (maxL := 7) (ret := none) (by decide) rfl ?_
  intro p e s m args below meth c s₁ B hml hv
  obtain ⟨rfl, hP, hK⟩ := hv
  have hx := B.exec
  have hb := B.bytes
  have hr := B.returns
  have hts := atoms_spec (ws := wc_X2_encodePart) B.pre
  have hT : ∀ w ∈ wC, w.before ([.ref (u r0), .ref (u r1), .int x2] : List Value).toArray s = true := fun w h => hts w (List.mem_cons_of_mem _ h)
  have hown : s.vm.findClass RX2 = some m.cls := findClass_of_methodNamed B.named
  have hlocks := B.notSynchronized
  have hU : uw_inj (cX vl) u (tw_A (cX vl) u) := ⟨hU0, fun h hh => ⟨h, hh, rfl⟩⟩
  have hM : uw_M D vwCl (cX vl) q (tw_A (cX vl) u) s.heap u z s.heap [] := ⟨hP, va_S.rf⟩
  have hl := lv_entry ([.ref (u r0), .ref (u r1), .int x2]) (n := 7) (Nat.le_of_ble_eq_true rfl)
  rw [lg_entry_eq]
  generalize (lg_sl ([.ref (u r0), .ref (u r1), .int x2]) ++ List.replicate (7 - (lg_sl ([.ref (u r0), .ref (u r1), .int x2])).length) Slot.unset).toArray = ls at hl ⊢
  have hl : lv_has ls 7 [(0, .ref (u r0)), (1, .ref (u r1)), (2, .int x2)] := hl
  refine ow_named (fun QQ hQQ => ?_)
  generalize ([.ref (u r0), .ref (u r1), .int x2] : List Value).toArray = args at hts hT hQQ ⊢
  have key : ∀ k : Nat, (∀ (x2 : Int32) (x3 : Int32) (x4 : Int32) (x5 : Int32) (r0 : Nat) (r1 : Nat) (z : ow_MS) (H : Heap) (locs : List Loc) (ls : Array Slot), cw_X2 r0 → cw_X7 r1 → uw_M D vwCl (cX vl) q (tw_A (cX vl) u) s.heap u z H locs → lv_has ls 7 [(0, .ref (u r0)), (1, .ref (u r1)), (2, .int x2)] → c_X2_encodePart vl K k 0 x2 x3 x4 x5 r0 r1 z = some z1 → W p l e ({ frames := 2, cells := 0, slots := 0, locals := 60 } : Room) s m args below meth c H locs 0 0 QQ (F0 m 0 ls [])) ∧ (∀ (x2 : Int32) (x3 : Int32) (x4 : Int32) (x5 : Int32) (r0 : Nat) (r1 : Nat) (z : ow_MS) (H : Heap) (locs : List Loc) (ls : Array Slot), cw_X2 r0 → cw_X7 r1 → uw_M D vwCl (cX vl) q (tw_A (cX vl) u) s.heap u z H locs → lv_has ls 7 [(0, .ref (u r0)), (1, .ref (u r1)), (2, .int x2), (3, .int x3), (4, .int x4), (5, .int x5)] → c_X2_encodePart vl K k 1 x2 x3 x4 x5 r0 r1 z = some z1 → W p l e ({ frames := 2, cells := 0, slots := 0, locals := 60 } : Room) s m args below meth c H locs 0 0 QQ (F0 m 22 ls [])) ∧ (∀ (x2 : Int32) (x3 : Int32) (x4 : Int32) (x5 : Int32) (r0 : Nat) (r1 : Nat) (z : ow_MS) (H : Heap) (locs : List Loc) (ls : Array Slot), cw_X2 r0 → cw_X7 r1 → uw_M D vwCl (cX vl) q (tw_A (cX vl) u) s.heap u z H locs → lv_has ls 7 [(0, .ref (u r0)), (1, .ref (u r1)), (2, .int x2), (3, .int x3), (4, .int x4), (5, .int x5)] → c_X2_encodePart vl K k 2 x2 x3 x4 x5 r0 r1 z = some z1 → W p l e ({ frames := 2, cells := 0, slots := 0, locals := 60 } : Room) s m args below meth c H locs 0 0 QQ (F0 m 111 ls [])) := by
    intro k
    induction k with
    | zero => exact ⟨fun _ _ _ _ _ _ _ _ _ _ _ _ _ _ hq => cw_no hq, fun _ _ _ _ _ _ _ _ _ _ _ _ _ _ hq => cw_no hq, fun _ _ _ _ _ _ _ _ _ _ _ _ _ _ hq => cw_no hq⟩
    | succ k ih =>
      obtain ⟨ih_0, ih_1, ih_2⟩ := ih
      refine ⟨?_, ?_, ?_⟩
      · intro x2 x3 x4 x5 r0 r1 z H locs ls hr0 hr1 hM hl hq
        have hq : cm_X2_encodePart_0 vl K (c_X2_encodePart vl K k) x2 x3 x4 x5 r0 r1 z = some z1 := hq
        unfold cm_X2_encodePart_0 at hq
        refine lv_aload_n hx hb dcX2_encodePart_0 rfl (lv_at hl 1 rfl) ?_
        refine lv_iload_n hx hb dcX2_encodePart_1 rfl (lv_at hl 2 rfl) ?_
        obtain ⟨v2, z1, hcq, hq⟩ := tw_cl1 hq
        refine uw_cali hU hM (va_runS (As := [.ref (u r1), .int x2]) (rest := []) ⟨hx, hb, hml, hown, hts⟩ (kc_X2_leastFirstCell l D q vl u hU.1 K r1 x2 hr1 z z1 v2 hcq) (va_cwS 2 hts (tw_gS wC_good xq_294 xq_295 xq_283 xq_296) rfl rfl rfl cdd_X2_leastFirstCell ⟨(Nat.le_of_ble_eq_true rfl), (Nat.le_of_ble_eq_true rfl)⟩) (cw_preS hK hM) rfl rfl hl.1 rfl (lv_room (Nat.le_of_ble_eq_true rfl)) dcX2_encodePart_2 ⟨(Nat.le_of_ble_eq_true rfl), (Nat.le_of_ble_eq_true rfl)⟩) (fun H locs hM => ?_)
        refine lv_istore_n (lv' := [(3, .int v2), (0, .ref (u r0)), (1, .ref (u r1)), (2, .int x2)]) hx hb dcX2_encodePart_5 rfl hl (by decide) rfl (fun ls hl => ?_)
        refine lv_iconst (v := 0) hx hb dcX2_encodePart_6 (by decide) ?_
        refine lv_istore (lv' := [(4, .int 0), (3, .int v2), (0, .ref (u r0)), (1, .ref (u r1)), (2, .int x2)]) hx hb dcX2_encodePart_7 hl (by decide) rfl (fun ls hl => ?_)
        refine lv_aload_n hx hb dcX2_encodePart_9 rfl (lv_at hl 2 rfl) ?_
        refine vgX2_20 hx hb hT hown hK hM hr0 dcX2_encodePart_10 ?_
        refine vgX2_48 hx hb hT hown hK hM (cs_X2_1 hr0) dcX2_encodePart_13 ?_
        refine lv_iconst (v := 0) hx hb dcX2_encodePart_16 (by decide) ?_
        refine lv_iconst (v := 0) hx hb dcX2_encodePart_17 (by decide) ?_
        refine uw_bast cX_ok hU hx hb hK hM (cr_X3_1 (cs_X2_1 hr0)) hq dcX2_encodePart_18 (fun z3 H locs hM hq => ?_)
        refine lv_iconst (v := 0) hx hb dcX2_encodePart_19 (by decide) ?_
        refine lv_istore (lv' := [(5, .int 0), (4, .int 0), (3, .int v2), (0, .ref (u r0)), (1, .ref (u r1)), (2, .int x2)]) hx hb dcX2_encodePart_20 hl (by decide) rfl (fun ls hl => ?_)
        exact ih_1 x2 v2 0 0 r0 r1 z3 H locs ls hr0 hr1 hM (lv_sub hl [3, 4, 5, 2, 1, 0] rfl) hq
      · intro x2 x3 x4 x5 r0 r1 z H locs ls hr0 hr1 hM hl hq
        have hq : cm_X2_encodePart_1 vl K (c_X2_encodePart vl K k) x2 x3 x4 x5 r0 r1 z = some z1 := hq
        unfold cm_X2_encodePart_1 at hq
        refine lv_iload hx hb dcX2_encodePart_22 (lv_at hl 5 rfl) ?_
        refine lv_iconst (v := 2) hx hb dcX2_encodePart_24 (by decide) ?_
        refine lv_aload_n hx hb dcX2_encodePart_25 rfl (lv_at hl 1 rfl) ?_
        refine vgX2_68 hx hb hT hown hK hM hr1 hq dcX2_encodePart_26 (fun v4 hq => ?_)
        refine lv_imul hx hb dcX2_encodePart_29 ?_
        refine lv_icmp_ge (tgt := 117) hx hb dcX2_encodePart_30 (by decide) (fun hc => ?_) (fun hc => ?_)
        · have hq := tw_it hq hc
          refine lv_aload_n hx hb dcX2_encodePart_117 rfl (lv_at hl 0 rfl) ?_
          refine vgX2_20 hx hb hT hown hK hM hr0 dcX2_encodePart_118 ?_
          refine vgX2_65 hx hb hT hown hK hM (cs_X2_1 hr0) dcX2_encodePart_121 ?_
          refine lv_iconst (v := 0) hx hb dcX2_encodePart_124 (by decide) ?_
          refine lv_iload hx hb dcX2_encodePart_125 (lv_at hl 4 rfl) ?_
          refine lv_iconst (v := 2) hx hb dcX2_encodePart_127 (by decide) ?_
          obtain ⟨hz, hq⟩ := tw_nzI hq
          refine lv_idiv hx hb dcX2_encodePart_128 hz ?_
          refine lv_i2b hx hb dcX2_encodePart_129 rfl ?_
          refine uw_bast cX_ok hU hx hb hK hM (cr_X3_2 (cs_X2_1 hr0)) hq dcX2_encodePart_130 (fun z5 H locs hM hq => ?_)
          exact cw_vret hx hb hr hlocks hM hq hQQ dcX2_encodePart_131
        · have hq := tw_if hq hc
          refine lv_aload_n hx hb dcX2_encodePart_33 rfl (lv_at hl 1 rfl) ?_
          refine vgX2_92 hx hb hT hown hK hM hr1 dcX2_encodePart_34 ?_
          refine lv_iload hx hb dcX2_encodePart_37 (lv_at hl 5 rfl) ?_
          refine uw_iald cX_ok hx hb hK hM (cr_X7_5 hr1) hq dcX2_encodePart_39 (fun v6 hq => ?_)
          refine lv_iload_n hx hb dcX2_encodePart_40 rfl (lv_at hl 2 rfl) ?_
          refine lv_icmp_eq (tgt := 47) hx hb dcX2_encodePart_41 (by decide) (fun hc => ?_) (fun hc => ?_)
          · have hq := tw_it hq hc
            refine lv_iinc (v := (x4 + 1)) (lv' := [(4, .int (x4 + 1)), (0, .ref (u r0)), (1, .ref (u r1)), (2, .int x2), (3, .int x3), (5, .int x5)]) hx hb dcX2_encodePart_47 hl (k := 4) rfl rfl (by decide) rfl (fun ls hl => ?_)
            refine lv_aload_n hx hb dcX2_encodePart_50 rfl (lv_at hl 2 rfl) ?_
            refine lv_iload hx hb dcX2_encodePart_51 (lv_at hl 5 rfl) ?_
            obtain ⟨v8, z7, hcq, hq⟩ := tw_cl1 hq
            refine uw_cali hU hM (va_runS (As := [.ref (u r1), .int x5]) (rest := []) ⟨hx, hb, hml, hown, hts⟩ (kc_X2_firstCell l D q vl u hU.1 K r1 x5 hr1 z z7 v8 hcq) (va_cwS 2 hts (tw_gS wC_good xq_298 xq_299 xq_283 xq_300) rfl rfl rfl cdd_X2_firstCell ⟨(Nat.le_of_ble_eq_true rfl), (Nat.le_of_ble_eq_true rfl)⟩) (cw_preS hK hM) rfl rfl hl.1 rfl (lv_room (Nat.le_of_ble_eq_true rfl)) dcX2_encodePart_53 ⟨(Nat.le_of_ble_eq_true rfl), (Nat.le_of_ble_eq_true rfl)⟩) (fun H locs hM => ?_)
            refine lv_iload_n hx hb dcX2_encodePart_56 rfl (lv_at hl 4 rfl) ?_
            refine lv_icmp_ne (tgt := 111) hx hb dcX2_encodePart_57 (by decide) (fun hc => ?_) (fun hc => ?_)
            · have hq := tw_if hq hc
              exact ih_2 x2 x3 (x4 + 1) x5 r0 r1 z7 H locs ls hr0 hr1 hM (lv_sub hl [1, 2, 3, 4, 0, 5] rfl) hq
            · have hq := tw_it hq hc
              refine lv_aload_n hx hb dcX2_encodePart_60 rfl (lv_at hl 1 rfl) ?_
              refine lv_aload_n hx hb dcX2_encodePart_61 rfl (lv_at hl 2 rfl) ?_
              refine lv_iload hx hb dcX2_encodePart_62 (lv_at hl 5 rfl) ?_
              obtain ⟨v10, z9, hcq, hq⟩ := tw_cl1 hq
              refine uw_cali hU hM (va_runV (As := [.ref (u r1), .int x5]) (rest := []) ⟨hx, hb, hml, hown, hts⟩ (kc_X2_tryFrom l D q vl u hU.1 K r0 r1 x5 hr0 hr1 z7 z9 v10 hcq) (cwV 2 hts (tw_gV wC_good xq_302 xq_303 xq_304 xq_283 xq_305) rfl rfl rfl cdd_X2_tryFrom ⟨(Nat.le_of_ble_eq_true rfl), (Nat.le_of_ble_eq_true rfl)⟩) (cw_preV hK hM (co_X2 hr0) rfl) rfl rfl hl.1 rfl (lv_room (Nat.le_of_ble_eq_true rfl)) dcX2_encodePart_64 ⟨(Nat.le_of_ble_eq_true rfl), (Nat.le_of_ble_eq_true rfl)⟩) (fun H locs hM => ?_)
              refine lv_istore (lv' := [(6, .int v10), (4, .int (x4 + 1)), (0, .ref (u r0)), (1, .ref (u r1)), (2, .int x2), (3, .int x3), (5, .int x5)]) hx hb dcX2_encodePart_67 hl (by decide) rfl (fun ls hl => ?_)
              refine lv_iload hx hb dcX2_encodePart_69 (lv_at hl 0 rfl) ?_
              refine lv_if_le (tgt := 111) hx hb dcX2_encodePart_71 (by decide) (fun hc => ?_) (fun hc => ?_)
              · have hq := tw_it hq hc
                exact ih_2 x2 x3 (x4 + 1) x5 r0 r1 z9 H locs ls hr0 hr1 hM (lv_sub hl [2, 3, 4, 5, 1, 6] rfl) hq
              · have hq := tw_if hq hc
                refine lv_iload hx hb dcX2_encodePart_74 (lv_at hl 0 rfl) ?_
                refine lv_bipush (v := 30) hx hb dcX2_encodePart_76 (by decide) ?_
                refine lv_icmp_gt (tgt := 111) hx hb dcX2_encodePart_78 (by decide) (fun hc => ?_) (fun hc => ?_)
                · have hq := tw_it hq hc
                  exact ih_2 x2 x3 (x4 + 1) x5 r0 r1 z9 H locs ls hr0 hr1 hM (lv_sub hl [2, 3, 4, 5, 1, 6] rfl) hq
                · have hq := tw_if hq hc
                  refine lv_aload_n hx hb dcX2_encodePart_81 rfl (lv_at hl 2 rfl) ?_
                  refine vgX2_26 hx hb hT hown hK hM hr0 dcX2_encodePart_82 ?_
                  refine lv_iconst (v := 0) hx hb dcX2_encodePart_85 (by decide) ?_
                  refine lv_aload_n hx hb dcX2_encodePart_86 rfl (lv_at hl 2 rfl) ?_
                  refine vgX2_20 hx hb hT hown hK hM hr0 dcX2_encodePart_87 ?_
                  refine vgX2_51 hx hb hT hown hK hM (cs_X2_1 hr0) dcX2_encodePart_90 ?_
                  refine lv_iconst (v := 0) hx hb dcX2_encodePart_93 (by decide) ?_
                  refine lv_iload hx hb dcX2_encodePart_94 (lv_at hl 0 rfl) ?_
                  refine uw_cpB cX_ok hU hx hb (by rw [hml]; exact hl.1.symm) hown (hT _ xq_276) (hT _ xq_130) (hT _ xq_131) (hT _ xq_132) hK hM (cr_X2_3 hr0) (cr_X3_0 (cs_X2_1 hr0)) hq (Nat.le_of_ble_eq_true rfl) (by decide) dcX2_encodePart_96 (fun z11 H locs hM hq => ?_)
                  refine lv_aload_n hx hb dcX2_encodePart_99 rfl (lv_at hl 2 rfl) ?_
                  refine vgX2_20 hx hb hT hown hK hM hr0 dcX2_encodePart_100 ?_
                  refine vgX2_48 hx hb hT hown hK hM (cs_X2_1 hr0) dcX2_encodePart_103 ?_
                  refine lv_iconst (v := 0) hx hb dcX2_encodePart_106 (by decide) ?_
                  refine lv_iload hx hb dcX2_encodePart_107 (lv_at hl 0 rfl) ?_
                  refine lv_i2b hx hb dcX2_encodePart_109 rfl ?_
                  refine uw_bast cX_ok hU hx hb hK hM (cr_X3_1 (cs_X2_1 hr0)) hq dcX2_encodePart_110 (fun z12 H locs hM hq => ?_)
                  exact ih_2 x2 x3 (x4 + 1) x5 r0 r1 z12 H locs ls hr0 hr1 hM (lv_sub hl [2, 3, 4, 5, 1, 6] rfl) hq
          · have hq := tw_if hq hc
            refine lv_goto (tgt := 111) hx hb dcX2_encodePart_44 (by decide) ?_
            exact ih_2 x2 x3 x4 x5 r0 r1 z H locs ls hr0 hr1 hM (lv_sub hl [0, 1, 2, 3, 4, 5] rfl) hq
      · intro x2 x3 x4 x5 r0 r1 z H locs ls hr0 hr1 hM hl hq
        have hq : cm_X2_encodePart_2 vl K (c_X2_encodePart vl K k) x2 x3 x4 x5 r0 r1 z = some z1 := hq
        unfold cm_X2_encodePart_2 at hq
        refine lv_iinc (v := (x5 + 1)) (lv' := [(5, .int (x5 + 1)), (0, .ref (u r0)), (1, .ref (u r1)), (2, .int x2), (3, .int x3), (4, .int x4)]) hx hb dcX2_encodePart_111 hl (k := 5) rfl rfl (by decide) rfl (fun ls hl => ?_)
        refine lv_goto (tgt := 22) hx hb dcX2_encodePart_114 (by decide) ?_
        exact ih_1 x2 x3 x4 (x5 + 1) r0 r1 z H locs ls hr0 hr1 hM (lv_sub hl [1, 2, 3, 4, 5, 0] rfl) hq
  exact (key K).1 x2 0 0 0 r0 r1 z s.heap [] ls hr0 hr1 hM (lv_sub hl [0, 1, 2] rfl) hq
theorem dcX3_compare_0 : decode cX3_compare 0 = .ok (.aload_n 0, 1) := dw_at cX3_compare_k0 (p := 0) rfl (by decide +kernel)
theorem dcX3_compare_1 : decode cX3_compare 1 = .ok (.getfield 18, 3) := dw_at cX3_compare_k0 (p := 1) rfl (by decide +kernel)
theorem dcX3_compare_4 : decode cX3_compare 4 = .ok (.iload_n 1, 1) := dw_at cX3_compare_k0 (p := 4) rfl (by decide +kernel)
theorem dcX3_compare_5 : decode cX3_compare 5 = .ok (.baload, 1) := dw_at cX3_compare_k0 (p := 5) rfl (by decide +kernel)
theorem dcX3_compare_6 : decode cX3_compare 6 = .ok (.aload_n 2, 1) := dw_at cX3_compare_k0 (p := 6) rfl (by decide +kernel)
theorem dcX3_compare_7 : decode cX3_compare 7 = .ok (.getfield 18, 3) := dw_at cX3_compare_k0 (p := 7) rfl (by decide +kernel)
theorem dcX3_compare_10 : decode cX3_compare 10 = .ok (.iload_n 3, 1) := dw_at cX3_compare_k0 (p := 10) rfl (by decide +kernel)
theorem dcX3_compare_11 : decode cX3_compare 11 = .ok (.baload, 1) := dw_at cX3_compare_k0 (p := 11) rfl (by decide +kernel)
theorem dcX3_compare_12 : decode cX3_compare 12 = .ok (.if_icmp .eq 17, 3) := dw_at cX3_compare_k0 (p := 12) rfl (by decide +kernel)
theorem dcX3_compare_15 : decode cX3_compare 15 = .ok (.aload_n 0, 1) := dw_at cX3_compare_k0 (p := 15) rfl (by decide +kernel)
theorem dcX3_compare_16 : decode cX3_compare 16 = .ok (.getfield 18, 3) := dw_at cX3_compare_k0 (p := 16) rfl (by decide +kernel)
theorem dcX3_compare_19 : decode cX3_compare 19 = .ok (.iload_n 1, 1) := dw_at cX3_compare_k0 (p := 19) rfl (by decide +kernel)
theorem dcX3_compare_20 : decode cX3_compare 20 = .ok (.baload, 1) := dw_at cX3_compare_k0 (p := 20) rfl (by decide +kernel)
theorem dcX3_compare_21 : decode cX3_compare 21 = .ok (.aload_n 2, 1) := dw_at cX3_compare_k0 (p := 21) rfl (by decide +kernel)
theorem dcX3_compare_22 : decode cX3_compare 22 = .ok (.getfield 18, 3) := dw_at cX3_compare_k0 (p := 22) rfl (by decide +kernel)
theorem dcX3_compare_25 : decode cX3_compare 25 = .ok (.iload_n 3, 1) := dw_at cX3_compare_k1 (p := 0) rfl (by decide +kernel)
theorem dcX3_compare_26 : decode cX3_compare 26 = .ok (.baload, 1) := dw_at cX3_compare_k1 (p := 1) rfl (by decide +kernel)
theorem dcX3_compare_27 : decode cX3_compare 27 = .ok (.isub, 1) := dw_at cX3_compare_k1 (p := 2) rfl (by decide +kernel)
theorem dcX3_compare_28 : decode cX3_compare 28 = .ok (.ireturn, 1) := dw_at cX3_compare_k1 (p := 3) rfl (by decide +kernel)
theorem dcX3_compare_29 : decode cX3_compare 29 = .ok (.iload_n 1, 1) := dw_at cX3_compare_k1 (p := 4) rfl (by decide +kernel)
theorem dcX3_compare_30 : decode cX3_compare 30 = .ok (.bipush 30, 2) := dw_at cX3_compare_k1 (p := 5) rfl (by decide +kernel)
theorem dcX3_compare_32 : decode cX3_compare 32 = .ok (.imul, 1) := dw_at cX3_compare_k1 (p := 7) rfl (by decide +kernel)
theorem dcX3_compare_33 : decode cX3_compare 33 = .ok (.istore 4, 2) := dw_at cX3_compare_k1 (p := 8) rfl (by decide +kernel)
theorem dcX3_compare_35 : decode cX3_compare 35 = .ok (.iload_n 3, 1) := dw_at cX3_compare_k1 (p := 10) rfl (by decide +kernel)
theorem dcX3_compare_36 : decode cX3_compare 36 = .ok (.bipush 30, 2) := dw_at cX3_compare_k1 (p := 11) rfl (by decide +kernel)
theorem dcX3_compare_38 : decode cX3_compare 38 = .ok (.imul, 1) := dw_at cX3_compare_k1 (p := 13) rfl (by decide +kernel)
theorem dcX3_compare_39 : decode cX3_compare 39 = .ok (.istore 5, 2) := dw_at cX3_compare_k1 (p := 14) rfl (by decide +kernel)
theorem dcX3_compare_41 : decode cX3_compare 41 = .ok (.aload_n 0, 1) := dw_at cX3_compare_k1 (p := 16) rfl (by decide +kernel)
theorem dcX3_compare_42 : decode cX3_compare 42 = .ok (.getfield 15, 3) := dw_at cX3_compare_k1 (p := 17) rfl (by decide +kernel)
theorem dcX3_compare_45 : decode cX3_compare 45 = .ok (.iload_n 1, 1) := dw_at cX3_compare_k1 (p := 20) rfl (by decide +kernel)
theorem dcX3_compare_46 : decode cX3_compare 46 = .ok (.baload, 1) := dw_at cX3_compare_k1 (p := 21) rfl (by decide +kernel)
theorem dcX3_compare_47 : decode cX3_compare 47 = .ok (.aload_n 2, 1) := dw_at cX3_compare_k1 (p := 22) rfl (by decide +kernel)
theorem dcX3_compare_48 : decode cX3_compare 48 = .ok (.getfield 15, 3) := dw_at cX3_compare_k1 (p := 23) rfl (by decide +kernel)
theorem dcX3_compare_51 : decode cX3_compare 51 = .ok (.iload_n 3, 1) := dw_at cX3_compare_k2 (p := 0) rfl (by decide +kernel)
theorem dcX3_compare_52 : decode cX3_compare 52 = .ok (.baload, 1) := dw_at cX3_compare_k2 (p := 1) rfl (by decide +kernel)
theorem dcX3_compare_53 : decode cX3_compare 53 = .ok (.invokestatic 31, 3) := dw_at cX3_compare_k2 (p := 2) rfl (by decide +kernel)
theorem dcX3_compare_56 : decode cX3_compare 56 = .ok (.istore 6, 2) := dw_at cX3_compare_k2 (p := 5) rfl (by decide +kernel)
theorem dcX3_compare_58 : decode cX3_compare 58 = .ok (.iconst 0, 1) := dw_at cX3_compare_k2 (p := 7) rfl (by decide +kernel)
theorem dcX3_compare_59 : decode cX3_compare 59 = .ok (.istore 7, 2) := dw_at cX3_compare_k2 (p := 8) rfl (by decide +kernel)
theorem dcX3_compare_61 : decode cX3_compare 61 = .ok (.iload 7, 2) := dw_at cX3_compare_k2 (p := 10) rfl (by decide +kernel)
theorem dcX3_compare_63 : decode cX3_compare 63 = .ok (.iload 6, 2) := dw_at cX3_compare_k2 (p := 12) rfl (by decide +kernel)
theorem dcX3_compare_65 : decode cX3_compare 65 = .ok (.if_icmp .ge 40, 3) := dw_at cX3_compare_k2 (p := 14) rfl (by decide +kernel)
theorem dcX3_compare_68 : decode cX3_compare 68 = .ok (.aload_n 0, 1) := dw_at cX3_compare_k2 (p := 17) rfl (by decide +kernel)
theorem dcX3_compare_69 : decode cX3_compare 69 = .ok (.getfield 9, 3) := dw_at cX3_compare_k2 (p := 18) rfl (by decide +kernel)
theorem dcX3_compare_72 : decode cX3_compare 72 = .ok (.iload 4, 2) := dw_at cX3_compare_k2 (p := 21) rfl (by decide +kernel)
theorem dcX3_compare_74 : decode cX3_compare 74 = .ok (.iload 7, 2) := dw_at cX3_compare_k2 (p := 23) rfl (by decide +kernel)
theorem dcX3_compare_76 : decode cX3_compare 76 = .ok (.iadd, 1) := dw_at cX3_compare_k3 (p := 0) rfl (by decide +kernel)
theorem dcX3_compare_77 : decode cX3_compare 77 = .ok (.baload, 1) := dw_at cX3_compare_k3 (p := 1) rfl (by decide +kernel)
theorem dcX3_compare_78 : decode cX3_compare 78 = .ok (.aload_n 2, 1) := dw_at cX3_compare_k3 (p := 2) rfl (by decide +kernel)
theorem dcX3_compare_79 : decode cX3_compare 79 = .ok (.getfield 9, 3) := dw_at cX3_compare_k3 (p := 3) rfl (by decide +kernel)
theorem dcX3_compare_82 : decode cX3_compare 82 = .ok (.iload 5, 2) := dw_at cX3_compare_k3 (p := 6) rfl (by decide +kernel)
theorem dcX3_compare_84 : decode cX3_compare 84 = .ok (.iload 7, 2) := dw_at cX3_compare_k3 (p := 8) rfl (by decide +kernel)
theorem dcX3_compare_86 : decode cX3_compare 86 = .ok (.iadd, 1) := dw_at cX3_compare_k3 (p := 10) rfl (by decide +kernel)
theorem dcX3_compare_87 : decode cX3_compare 87 = .ok (.baload, 1) := dw_at cX3_compare_k3 (p := 11) rfl (by decide +kernel)
theorem dcX3_compare_88 : decode cX3_compare 88 = .ok (.isub, 1) := dw_at cX3_compare_k3 (p := 12) rfl (by decide +kernel)
theorem dcX3_compare_89 : decode cX3_compare 89 = .ok (.istore 8, 2) := dw_at cX3_compare_k3 (p := 13) rfl (by decide +kernel)
theorem dcX3_compare_91 : decode cX3_compare 91 = .ok (.iload 8, 2) := dw_at cX3_compare_k3 (p := 15) rfl (by decide +kernel)
theorem dcX3_compare_93 : decode cX3_compare 93 = .ok (.ifCond .eq 6, 3) := dw_at cX3_compare_k3 (p := 17) rfl (by decide +kernel)
theorem dcX3_compare_96 : decode cX3_compare 96 = .ok (.iload 8, 2) := dw_at cX3_compare_k3 (p := 20) rfl (by decide +kernel)
theorem dcX3_compare_98 : decode cX3_compare 98 = .ok (.ireturn, 1) := dw_at cX3_compare_k3 (p := 22) rfl (by decide +kernel)
theorem dcX3_compare_99 : decode cX3_compare 99 = .ok (.iinc 7 1, 3) := dw_at cX3_compare_k3 (p := 23) rfl (by decide +kernel)
theorem dcX3_compare_102 : decode cX3_compare 102 = .ok (.goto (-41), 3) := dw_at cX3_compare_k4 (p := 0) rfl (by decide +kernel)
theorem dcX3_compare_105 : decode cX3_compare 105 = .ok (.aload_n 0, 1) := dw_at cX3_compare_k4 (p := 3) rfl (by decide +kernel)
theorem dcX3_compare_106 : decode cX3_compare 106 = .ok (.getfield 15, 3) := dw_at cX3_compare_k4 (p := 4) rfl (by decide +kernel)
theorem dcX3_compare_109 : decode cX3_compare 109 = .ok (.iload_n 1, 1) := dw_at cX3_compare_k4 (p := 7) rfl (by decide +kernel)
theorem dcX3_compare_110 : decode cX3_compare 110 = .ok (.baload, 1) := dw_at cX3_compare_k4 (p := 8) rfl (by decide +kernel)
theorem dcX3_compare_111 : decode cX3_compare 111 = .ok (.aload_n 2, 1) := dw_at cX3_compare_k4 (p := 9) rfl (by decide +kernel)
theorem dcX3_compare_112 : decode cX3_compare 112 = .ok (.getfield 15, 3) := dw_at cX3_compare_k4 (p := 10) rfl (by decide +kernel)
theorem dcX3_compare_115 : decode cX3_compare 115 = .ok (.iload_n 3, 1) := dw_at cX3_compare_k4 (p := 13) rfl (by decide +kernel)
theorem dcX3_compare_116 : decode cX3_compare 116 = .ok (.baload, 1) := dw_at cX3_compare_k4 (p := 14) rfl (by decide +kernel)
theorem dcX3_compare_117 : decode cX3_compare 117 = .ok (.isub, 1) := dw_at cX3_compare_k4 (p := 15) rfl (by decide +kernel)
theorem dcX3_compare_118 : decode cX3_compare 118 = .ok (.ireturn, 1) := dw_at cX3_compare_k4 (p := 16) rfl (by decide +kernel)
def cm_X3_compare_0 (vl : Nat → Nat) (K : Nat) (go : Nat → Int32 → Int32 → Int32 → Int32 → Int32 → Int32 → Nat → Nat → ow_MS → Option (Int32 × ow_MS)) (x1 : Int32) (x3 : Int32) (x4 : Int32) (x5 : Int32) (x6 : Int32) (x7 : Int32) (r0 : Nat) (r2 : Nat) (z : ow_MS) : Option (Int32 × ow_MS) :=
 crI (cX vl) z (r0 + 3) x1 fun v1 => crI (cX vl) z (r2 + 3) x3 fun v2 => (if v1 = v2 then crI (cX vl) z (r0 + 2) x1 fun v3 => crI (cX vl) z (r2 + 2) x3 fun v4 => go 1 x1 x3 (x1 * 30) (x3 * 30) (if v4 < v3 then v4 else v3) 0 r0 r2 z
 else crI (cX vl) z (r0 + 3) x1 fun v5 => crI (cX vl) z (r2 + 3) x3 fun v6 => some ((v5 - v6), z))
def cm_X3_compare_1 (vl : Nat → Nat) (K : Nat) (go : Nat → Int32 → Int32 → Int32 → Int32 → Int32 → Int32 → Nat → Nat → ow_MS → Option (Int32 × ow_MS)) (x1 : Int32) (x3 : Int32) (x4 : Int32) (x5 : Int32) (x6 : Int32) (x7 : Int32) (r0 : Nat) (r2 : Nat) (z : ow_MS) : Option (Int32 × ow_MS) :=
 (if x6 ≤ x7 then crI (cX vl) z (r0 + 2) x1 fun v7 => crI (cX vl) z (r2 + 2) x3 fun v8 => some ((v7 - v8), z)
 else crI (cX vl) z (r0 + 1) (x4 + x7) fun v9 => crI (cX vl) z (r2 + 1) (x5 + x7) fun v10 => (if (v9 - v10) = 0 then go 1 x1 x3 x4 x5 x6 (x7 + 1) r0 r2 z
 else some ((v9 - v10), z)))
def cb_X3_compare (vl : Nat → Nat) (K : Nat) (go : Nat → Int32 → Int32 → Int32 → Int32 → Int32 → Int32 → Nat → Nat → ow_MS → Option (Int32 × ow_MS)) (L : Nat) (x1 : Int32) (x3 : Int32) (x4 : Int32) (x5 : Int32) (x6 : Int32) (x7 : Int32) (r0 : Nat) (r2 : Nat) (z : ow_MS) : Option (Int32 × ow_MS) := match L with
  | 0 => cm_X3_compare_0 vl K go x1 x3 x4 x5 x6 x7 r0 r2 z
  | 1 => cm_X3_compare_1 vl K go x1 x3 x4 x5 x6 x7 r0 r2 z
  | _ => none
def c_X3_compare (vl : Nat → Nat) (K : Nat) : Nat → Nat → Int32 → Int32 → Int32 → Int32 → Int32 → Int32 → Nat → Nat → ow_MS → Option (Int32 × ow_MS)
  | 0 => fun _ _ _ _ _ _ _ _ _ _ => none
  | k + 1 => cb_X3_compare vl K (c_X3_compare vl K k)
def ce_X3_compare (vl : Nat → Nat) (K : Nat) (r0 : Nat) (x1 : Int32) (r2 : Nat) (x3 : Int32) (z : ow_MS) : Option (Int32 × ow_MS) := c_X3_compare vl K K 0 x1 x3 0 0 0 0 r0 r2 z
abbrev wc_X3_compare : List Cond := .code yX3_compare cX3_compare 9 (some .int) :: wC
theorem cdd_X3_compare : yX3_compare.cls = RX3 ∧ yX3_compare.cls ≠ "java/lang/invoke/MethodHandle" ∧ yX3_compare.cls ≠ "java/lang/invoke/VarHandle" ∧ (parseMethodDescriptor yX3_compare.desc).map (fun d => d.parameters.length) = some 3 := by decide +kernel
set_option maxHeartbeats 4000000 in
set_option maxRecDepth 100000 in
theorem kc_X3_compare (l : Launch) (D : va_G) (q : Nat → ClassId) (vl u : Nat → Nat) (hU0 : tw_inj (cX vl) u) (K : Nat) (r0 : Nat) (x1 : Int32) (r2 : Nat) (x3 : Int32) (hr0 : cw_X3 r0) (hr2 : cw_X3 r2) (z z1 : ow_MS) (r : Int32) (hq : ce_X3_compare vl K r0 x1 r2 x3 z = some (r, z1)) : Met l yX3_compare wc_X3_compare ({ frames := 1, cells := 0, slots := 0, locals := 29 } : Room) (va_Pc [.ref (u r0), .int x1, .ref (u r2), .int x3] (cw_pre D q vl u z)) (va_Qi (fun x (_ : Unit) => x = r) (fun _ t => va_P D vwCl (uw (cX vl) q u z1) t.heap) (tw_A (cX vl) u)) 0 0 (tw_A (cX vl) u) := by
  refine Met.ofW (cc := cX3_compare) (maxL := 9) (ret := (some .int)) (by decide) rfl ?_
  intro p e s m args below meth c s₁ B hml hv
  obtain ⟨rfl, hP, hK⟩ := hv
  have hx := B.exec
  have hb := B.bytes
  have hr := B.returns
  have hts := atoms_spec (ws := wc_X3_compare) B.pre
  have hT : ∀ w ∈ wC, w.before ([.ref (u r0), .int x1, .ref (u r2), .int x3] : List Value).toArray s = true := fun w h => hts w (List.mem_cons_of_mem _ h)
  have hown : s.vm.findClass RX3 = some m.cls := findClass_of_methodNamed B.named
  have hlocks := B.notSynchronized
  have hU : uw_inj (cX vl) u (tw_A (cX vl) u) := ⟨hU0, fun h hh => ⟨h, hh, rfl⟩⟩
  have hM : uw_M D vwCl (cX vl) q (tw_A (cX vl) u) s.heap u z s.heap [] := ⟨hP, va_S.rf⟩
  have hl := lv_entry ([.ref (u r0), .int x1, .ref (u r2), .int x3]) (n := 9) (Nat.le_of_ble_eq_true rfl)
  rw [lg_entry_eq]
  generalize (lg_sl ([.ref (u r0), .int x1, .ref (u r2), .int x3]) ++ List.replicate (9 - (lg_sl ([.ref (u r0), .int x1, .ref (u r2), .int x3])).length) Slot.unset).toArray = ls at hl ⊢
  have hl : lv_has ls 9 [(0, .ref (u r0)), (1, .int x1), (2, .ref (u r2)), (3, .int x3)] := hl
  refine ow_named (fun QQ hQQ => ?_)
  generalize ([.ref (u r0), .int x1, .ref (u r2), .int x3] : List Value).toArray = args at hts hT hQQ ⊢
  have key : ∀ k : Nat, (∀ (x1 : Int32) (x3 : Int32) (x4 : Int32) (x5 : Int32) (x6 : Int32) (x7 : Int32) (r0 : Nat) (r2 : Nat) (z : ow_MS) (H : Heap) (locs : List Loc) (ls : Array Slot), cw_X3 r0 → cw_X3 r2 → uw_M D vwCl (cX vl) q (tw_A (cX vl) u) s.heap u z H locs → lv_has ls 9 [(0, .ref (u r0)), (1, .int x1), (2, .ref (u r2)), (3, .int x3)] → c_X3_compare vl K k 0 x1 x3 x4 x5 x6 x7 r0 r2 z = some (r, z1) → W p l e ({ frames := 1, cells := 0, slots := 0, locals := 29 } : Room) s m args below meth c H locs 0 0 QQ (F0 m 0 ls [])) ∧ (∀ (x1 : Int32) (x3 : Int32) (x4 : Int32) (x5 : Int32) (x6 : Int32) (x7 : Int32) (r0 : Nat) (r2 : Nat) (z : ow_MS) (H : Heap) (locs : List Loc) (ls : Array Slot), cw_X3 r0 → cw_X3 r2 → uw_M D vwCl (cX vl) q (tw_A (cX vl) u) s.heap u z H locs → lv_has ls 9 [(0, .ref (u r0)), (1, .int x1), (2, .ref (u r2)), (3, .int x3), (4, .int x4), (5, .int x5), (6, .int x6), (7, .int x7)] → c_X3_compare vl K k 1 x1 x3 x4 x5 x6 x7 r0 r2 z = some (r, z1) → W p l e ({ frames := 1, cells := 0, slots := 0, locals := 29 } : Room) s m args below meth c H locs 0 0 QQ (F0 m 61 ls [])) := by
    intro k
    induction k with
    | zero => exact ⟨fun _ _ _ _ _ _ _ _ _ _ _ _ _ _ _ _ hq => cw_no hq, fun _ _ _ _ _ _ _ _ _ _ _ _ _ _ _ _ hq => cw_no hq⟩
    | succ k ih =>
      obtain ⟨ih_0, ih_1⟩ := ih
      refine ⟨?_, ?_⟩
      · intro x1 x3 x4 x5 x6 x7 r0 r2 z H locs ls hr0 hr2 hM hl hq
        have hq : cm_X3_compare_0 vl K (c_X3_compare vl K k) x1 x3 x4 x5 x6 x7 r0 r2 z = some (r, z1) := hq
        unfold cm_X3_compare_0 at hq
        refine lv_aload_n hx hb dcX3_compare_0 rfl (lv_at hl 0 rfl) ?_
        refine vgX3_18 hx hb hT hown hK hM hr0 dcX3_compare_1 ?_
        refine lv_iload_n hx hb dcX3_compare_4 rfl (lv_at hl 1 rfl) ?_
        refine uw_bald cX_ok hx hb hK hM (cr_X3_2 hr0) hq dcX3_compare_5 (fun v1 hq => ?_)
        refine lv_aload_n hx hb dcX3_compare_6 rfl (lv_at hl 2 rfl) ?_
        refine vgX3_18 hx hb hT hown hK hM hr2 dcX3_compare_7 ?_
        refine lv_iload_n hx hb dcX3_compare_10 rfl (lv_at hl 3 rfl) ?_
        refine uw_bald cX_ok hx hb hK hM (cr_X3_2 hr2) hq dcX3_compare_11 (fun v2 hq => ?_)
        refine lv_icmp_eq (tgt := 29) hx hb dcX3_compare_12 (by decide) (fun hc => ?_) (fun hc => ?_)
        · have hq := tw_it hq hc
          refine lv_iload_n hx hb dcX3_compare_29 rfl (lv_at hl 1 rfl) ?_
          refine lv_bipush (v := 30) hx hb dcX3_compare_30 (by decide) ?_
          refine lv_imul hx hb dcX3_compare_32 ?_
          refine lv_istore (lv' := [(4, .int (x1 * 30)), (0, .ref (u r0)), (1, .int x1), (2, .ref (u r2)), (3, .int x3)]) hx hb dcX3_compare_33 hl (by decide) rfl (fun ls hl => ?_)
          refine lv_iload_n hx hb dcX3_compare_35 rfl (lv_at hl 4 rfl) ?_
          refine lv_bipush (v := 30) hx hb dcX3_compare_36 (by decide) ?_
          refine lv_imul hx hb dcX3_compare_38 ?_
          refine lv_istore (lv' := [(5, .int (x3 * 30)), (4, .int (x1 * 30)), (0, .ref (u r0)), (1, .int x1), (2, .ref (u r2)), (3, .int x3)]) hx hb dcX3_compare_39 hl (by decide) rfl (fun ls hl => ?_)
          refine lv_aload_n hx hb dcX3_compare_41 rfl (lv_at hl 2 rfl) ?_
          refine vgX3_15 hx hb hT hown hK hM hr0 dcX3_compare_42 ?_
          refine lv_iload_n hx hb dcX3_compare_45 rfl (lv_at hl 3 rfl) ?_
          refine uw_bald cX_ok hx hb hK hM (cr_X3_1 hr0) hq dcX3_compare_46 (fun v3 hq => ?_)
          refine lv_aload_n hx hb dcX3_compare_47 rfl (lv_at hl 4 rfl) ?_
          refine vgX3_15 hx hb hT hown hK hM hr2 dcX3_compare_48 ?_
          refine lv_iload_n hx hb dcX3_compare_51 rfl (lv_at hl 5 rfl) ?_
          refine uw_bald cX_ok hx hb hK hM (cr_X3_1 hr2) hq dcX3_compare_52 (fun v4 hq => ?_)
          refine va_mmin hx hb (by rw [hml]; exact hl.1.symm) hown (hT _ xq_323) (hT _ xq_76) (hT _ xq_18) (hT _ xq_77) (Nat.le_of_ble_eq_true rfl) (by decide) (Nat.le_of_ble_eq_true rfl) (Nat.le_of_ble_eq_true rfl) dcX3_compare_53 ?_
          refine lv_istore (lv' := [(6, .int (if v4 < v3 then v4 else v3)), (5, .int (x3 * 30)), (4, .int (x1 * 30)), (0, .ref (u r0)), (1, .int x1), (2, .ref (u r2)), (3, .int x3)]) hx hb dcX3_compare_56 hl (by decide) rfl (fun ls hl => ?_)
          refine lv_iconst (v := 0) hx hb dcX3_compare_58 (by decide) ?_
          refine lv_istore (lv' := [(7, .int 0), (6, .int (if v4 < v3 then v4 else v3)), (5, .int (x3 * 30)), (4, .int (x1 * 30)), (0, .ref (u r0)), (1, .int x1), (2, .ref (u r2)), (3, .int x3)]) hx hb dcX3_compare_59 hl (by decide) rfl (fun ls hl => ?_)
          exact ih_1 x1 x3 (x1 * 30) (x3 * 30) (if v4 < v3 then v4 else v3) 0 r0 r2 z H locs ls hr0 hr2 hM (lv_sub hl [4, 5, 6, 7, 3, 2, 1, 0] rfl) hq
        · have hq := tw_if hq hc
          refine lv_aload_n hx hb dcX3_compare_15 rfl (lv_at hl 0 rfl) ?_
          refine vgX3_18 hx hb hT hown hK hM hr0 dcX3_compare_16 ?_
          refine lv_iload_n hx hb dcX3_compare_19 rfl (lv_at hl 1 rfl) ?_
          refine uw_bald cX_ok hx hb hK hM (cr_X3_2 hr0) hq dcX3_compare_20 (fun v5 hq => ?_)
          refine lv_aload_n hx hb dcX3_compare_21 rfl (lv_at hl 2 rfl) ?_
          refine vgX3_18 hx hb hT hown hK hM hr2 dcX3_compare_22 ?_
          refine lv_iload_n hx hb dcX3_compare_25 rfl (lv_at hl 3 rfl) ?_
          refine uw_bald cX_ok hx hb hK hM (cr_X3_2 hr2) hq dcX3_compare_26 (fun v6 hq => ?_)
          refine lv_isub hx hb dcX3_compare_27 ?_
          exact cw_iret hx hb hr hlocks hM hq hQQ dcX3_compare_28
      · intro x1 x3 x4 x5 x6 x7 r0 r2 z H locs ls hr0 hr2 hM hl hq
        have hq : cm_X3_compare_1 vl K (c_X3_compare vl K k) x1 x3 x4 x5 x6 x7 r0 r2 z = some (r, z1) := hq
        unfold cm_X3_compare_1 at hq
        refine lv_iload hx hb dcX3_compare_61 (lv_at hl 7 rfl) ?_
        refine lv_iload hx hb dcX3_compare_63 (lv_at hl 6 rfl) ?_
        refine lv_icmp_ge (tgt := 105) hx hb dcX3_compare_65 (by decide) (fun hc => ?_) (fun hc => ?_)
        · have hq := tw_it hq hc
          refine lv_aload_n hx hb dcX3_compare_105 rfl (lv_at hl 0 rfl) ?_
          refine vgX3_15 hx hb hT hown hK hM hr0 dcX3_compare_106 ?_
          refine lv_iload_n hx hb dcX3_compare_109 rfl (lv_at hl 1 rfl) ?_
          refine uw_bald cX_ok hx hb hK hM (cr_X3_1 hr0) hq dcX3_compare_110 (fun v7 hq => ?_)
          refine lv_aload_n hx hb dcX3_compare_111 rfl (lv_at hl 2 rfl) ?_
          refine vgX3_15 hx hb hT hown hK hM hr2 dcX3_compare_112 ?_
          refine lv_iload_n hx hb dcX3_compare_115 rfl (lv_at hl 3 rfl) ?_
          refine uw_bald cX_ok hx hb hK hM (cr_X3_1 hr2) hq dcX3_compare_116 (fun v8 hq => ?_)
          refine lv_isub hx hb dcX3_compare_117 ?_
          exact cw_iret hx hb hr hlocks hM hq hQQ dcX3_compare_118
        · have hq := tw_if hq hc
          refine lv_aload_n hx hb dcX3_compare_68 rfl (lv_at hl 0 rfl) ?_
          refine vgX3_9 hx hb hT hown hK hM hr0 dcX3_compare_69 ?_
          refine lv_iload hx hb dcX3_compare_72 (lv_at hl 4 rfl) ?_
          refine lv_iload hx hb dcX3_compare_74 (lv_at hl 7 rfl) ?_
          refine lv_iadd hx hb dcX3_compare_76 ?_
          refine uw_bald cX_ok hx hb hK hM (cr_X3_0 hr0) hq dcX3_compare_77 (fun v9 hq => ?_)
          refine lv_aload_n hx hb dcX3_compare_78 rfl (lv_at hl 2 rfl) ?_
          refine vgX3_9 hx hb hT hown hK hM hr2 dcX3_compare_79 ?_
          refine lv_iload hx hb dcX3_compare_82 (lv_at hl 5 rfl) ?_
          refine lv_iload hx hb dcX3_compare_84 (lv_at hl 7 rfl) ?_
          refine lv_iadd hx hb dcX3_compare_86 ?_
          refine uw_bald cX_ok hx hb hK hM (cr_X3_0 hr2) hq dcX3_compare_87 (fun v10 hq => ?_)
          refine lv_isub hx hb dcX3_compare_88 ?_
          refine lv_istore (lv' := [(8, .int (v9 - v10)), (0, .ref (u r0)), (1, .int x1), (2, .ref (u r2)), (3, .int x3), (4, .int x4), (5, .int x5), (6, .int x6), (7, .int x7)]) hx hb dcX3_compare_89 hl (by decide) rfl (fun ls hl => ?_)
          refine lv_iload hx hb dcX3_compare_91 (lv_at hl 0 rfl) ?_
          refine lv_if_eq (tgt := 99) hx hb dcX3_compare_93 (by decide) (fun hc => ?_) (fun hc => ?_)
          · have hq := tw_it hq hc
            refine lv_iinc (v := (x7 + 1)) (lv' := [(7, .int (x7 + 1)), (8, .int (v9 - v10)), (0, .ref (u r0)), (1, .int x1), (2, .ref (u r2)), (3, .int x3), (4, .int x4), (5, .int x5), (6, .int x6)]) hx hb dcX3_compare_99 hl (k := 8) rfl rfl (by decide) rfl (fun ls hl => ?_)
            refine lv_goto (tgt := 61) hx hb dcX3_compare_102 (by decide) ?_
            exact ih_1 x1 x3 x4 x5 x6 (x7 + 1) r0 r2 z H locs ls hr0 hr2 hM (lv_sub hl [2, 3, 4, 5, 6, 7, 8, 0] rfl) hq
          · have hq := tw_if hq hc
            refine lv_iload hx hb dcX3_compare_96 (lv_at hl 0 rfl) ?_
            exact cw_iret hx hb hr hlocks hM hq hQQ dcX3_compare_98
  exact (key K).1 x1 x3 0 0 0 0 r0 r2 z s.heap [] ls hr0 hr2 hM (lv_sub hl [0, 1, 2, 3] rfl) hq
theorem dcX3_find_0 : decode cX3_find 0 = .ok (.iconst 0, 1) := dw_at cX3_find_k0 (p := 0) rfl (by decide +kernel)
theorem dcX3_find_1 : decode cX3_find 1 = .ok (.istore_n 3, 1) := dw_at cX3_find_k0 (p := 1) rfl (by decide +kernel)
theorem dcX3_find_2 : decode cX3_find 2 = .ok (.aload_n 0, 1) := dw_at cX3_find_k0 (p := 2) rfl (by decide +kernel)
theorem dcX3_find_3 : decode cX3_find 3 = .ok (.getfield 37, 3) := dw_at cX3_find_k0 (p := 3) rfl (by decide +kernel)
theorem dcX3_find_6 : decode cX3_find 6 = .ok (.istore 4, 2) := dw_at cX3_find_k0 (p := 6) rfl (by decide +kernel)
theorem dcX3_find_8 : decode cX3_find 8 = .ok (.iconst 0, 1) := dw_at cX3_find_k0 (p := 8) rfl (by decide +kernel)
theorem dcX3_find_9 : decode cX3_find 9 = .ok (.istore 5, 2) := dw_at cX3_find_k0 (p := 9) rfl (by decide +kernel)
theorem dcX3_find_11 : decode cX3_find 11 = .ok (.iload 5, 2) := dw_at cX3_find_k0 (p := 11) rfl (by decide +kernel)
theorem dcX3_find_13 : decode cX3_find 13 = .ok (.bipush 32, 2) := dw_at cX3_find_k0 (p := 13) rfl (by decide +kernel)
theorem dcX3_find_15 : decode cX3_find 15 = .ok (.if_icmp .ge 63, 3) := dw_at cX3_find_k0 (p := 15) rfl (by decide +kernel)
theorem dcX3_find_18 : decode cX3_find 18 = .ok (.iload_n 3, 1) := dw_at cX3_find_k0 (p := 18) rfl (by decide +kernel)
theorem dcX3_find_19 : decode cX3_find 19 = .ok (.iload 4, 2) := dw_at cX3_find_k0 (p := 19) rfl (by decide +kernel)
theorem dcX3_find_21 : decode cX3_find 21 = .ok (.if_icmp .ge 57, 3) := dw_at cX3_find_k0 (p := 21) rfl (by decide +kernel)
theorem dcX3_find_24 : decode cX3_find 24 = .ok (.iload_n 3, 1) := dw_at cX3_find_k1 (p := 0) rfl (by decide +kernel)
theorem dcX3_find_25 : decode cX3_find 25 = .ok (.iload 4, 2) := dw_at cX3_find_k1 (p := 1) rfl (by decide +kernel)
theorem dcX3_find_27 : decode cX3_find 27 = .ok (.iadd, 1) := dw_at cX3_find_k1 (p := 3) rfl (by decide +kernel)
theorem dcX3_find_28 : decode cX3_find 28 = .ok (.iconst 1, 1) := dw_at cX3_find_k1 (p := 4) rfl (by decide +kernel)
theorem dcX3_find_29 : decode cX3_find 29 = .ok (.iushr, 1) := dw_at cX3_find_k1 (p := 5) rfl (by decide +kernel)
theorem dcX3_find_30 : decode cX3_find 30 = .ok (.istore 6, 2) := dw_at cX3_find_k1 (p := 6) rfl (by decide +kernel)
theorem dcX3_find_32 : decode cX3_find 32 = .ok (.aload_n 0, 1) := dw_at cX3_find_k1 (p := 8) rfl (by decide +kernel)
theorem dcX3_find_33 : decode cX3_find 33 = .ok (.aload_n 0, 1) := dw_at cX3_find_k1 (p := 9) rfl (by decide +kernel)
theorem dcX3_find_34 : decode cX3_find 34 = .ok (.getfield 21, 3) := dw_at cX3_find_k1 (p := 10) rfl (by decide +kernel)
theorem dcX3_find_37 : decode cX3_find 37 = .ok (.iload 6, 2) := dw_at cX3_find_k1 (p := 13) rfl (by decide +kernel)
theorem dcX3_find_39 : decode cX3_find 39 = .ok (.iaload, 1) := dw_at cX3_find_k1 (p := 15) rfl (by decide +kernel)
theorem dcX3_find_40 : decode cX3_find 40 = .ok (.aload_n 1, 1) := dw_at cX3_find_k1 (p := 16) rfl (by decide +kernel)
theorem dcX3_find_41 : decode cX3_find 41 = .ok (.iload_n 2, 1) := dw_at cX3_find_k1 (p := 17) rfl (by decide +kernel)
theorem dcX3_find_42 : decode cX3_find 42 = .ok (.invokevirtual 41, 3) := dw_at cX3_find_k1 (p := 18) rfl (by decide +kernel)
theorem dcX3_find_45 : decode cX3_find 45 = .ok (.istore 7, 2) := dw_at cX3_find_k1 (p := 21) rfl (by decide +kernel)
theorem dcX3_find_47 : decode cX3_find 47 = .ok (.iload 7, 2) := dw_at cX3_find_k1 (p := 23) rfl (by decide +kernel)
theorem dcX3_find_49 : decode cX3_find 49 = .ok (.ifCond .ne 6, 3) := dw_at cX3_find_k2 (p := 0) rfl (by decide +kernel)
theorem dcX3_find_52 : decode cX3_find 52 = .ok (.iload 6, 2) := dw_at cX3_find_k2 (p := 3) rfl (by decide +kernel)
theorem dcX3_find_54 : decode cX3_find 54 = .ok (.ireturn, 1) := dw_at cX3_find_k2 (p := 5) rfl (by decide +kernel)
theorem dcX3_find_55 : decode cX3_find 55 = .ok (.iload 7, 2) := dw_at cX3_find_k2 (p := 6) rfl (by decide +kernel)
theorem dcX3_find_57 : decode cX3_find 57 = .ok (.ifCond .ge 11, 3) := dw_at cX3_find_k2 (p := 8) rfl (by decide +kernel)
theorem dcX3_find_60 : decode cX3_find 60 = .ok (.iload 6, 2) := dw_at cX3_find_k2 (p := 11) rfl (by decide +kernel)
theorem dcX3_find_62 : decode cX3_find 62 = .ok (.iconst 1, 1) := dw_at cX3_find_k2 (p := 13) rfl (by decide +kernel)
theorem dcX3_find_63 : decode cX3_find 63 = .ok (.iadd, 1) := dw_at cX3_find_k2 (p := 14) rfl (by decide +kernel)
theorem dcX3_find_64 : decode cX3_find 64 = .ok (.istore_n 3, 1) := dw_at cX3_find_k2 (p := 15) rfl (by decide +kernel)
theorem dcX3_find_65 : decode cX3_find 65 = .ok (.goto 7, 3) := dw_at cX3_find_k2 (p := 16) rfl (by decide +kernel)
theorem dcX3_find_68 : decode cX3_find 68 = .ok (.iload 6, 2) := dw_at cX3_find_k2 (p := 19) rfl (by decide +kernel)
theorem dcX3_find_70 : decode cX3_find 70 = .ok (.istore 4, 2) := dw_at cX3_find_k2 (p := 21) rfl (by decide +kernel)
theorem dcX3_find_72 : decode cX3_find 72 = .ok (.iinc 5 1, 3) := dw_at cX3_find_k2 (p := 23) rfl (by decide +kernel)
theorem dcX3_find_75 : decode cX3_find 75 = .ok (.goto (-64), 3) := dw_at cX3_find_k2 (p := 26) rfl (by decide +kernel)
theorem dcX3_find_78 : decode cX3_find 78 = .ok (.iconst (-1), 1) := dw_at cX3_find_k2 (p := 29) rfl (by decide +kernel)
theorem dcX3_find_79 : decode cX3_find 79 = .ok (.iload_n 3, 1) := dw_at cX3_find_k2 (p := 30) rfl (by decide +kernel)
theorem dcX3_find_80 : decode cX3_find 80 = .ok (.isub, 1) := dw_at cX3_find_k2 (p := 31) rfl (by decide +kernel)
theorem dcX3_find_81 : decode cX3_find 81 = .ok (.ireturn, 1) := dw_at cX3_find_k2 (p := 32) rfl (by decide +kernel)
def cm_X3_find_0 (vl : Nat → Nat) (K : Nat) (go : Nat → Int32 → Int32 → Int32 → Int32 → Int32 → Int32 → Nat → Nat → ow_MS → Option (Int32 × ow_MS)) (x2 : Int32) (x3 : Int32) (x4 : Int32) (x5 : Int32) (x6 : Int32) (x7 : Int32) (r0 : Nat) (r1 : Nat) (z : ow_MS) : Option (Int32 × ow_MS) :=
 rdF z (r0 + 5) fun v1 => go 1 x2 0 v1 0 0 0 r0 r1 z
def cm_X3_find_1 (vl : Nat → Nat) (K : Nat) (go : Nat → Int32 → Int32 → Int32 → Int32 → Int32 → Int32 → Nat → Nat → ow_MS → Option (Int32 × ow_MS)) (x2 : Int32) (x3 : Int32) (x4 : Int32) (x5 : Int32) (x6 : Int32) (x7 : Int32) (r0 : Nat) (r1 : Nat) (z : ow_MS) : Option (Int32 × ow_MS) :=
 (if 32 ≤ x5 then some (((-1) - x3), z)
 else (if x4 ≤ x3 then some (((-1) - x3), z)
 else crI (cX vl) z (r0 + 4) ((((x3 + x4) : Int32).toUInt32 >>> ((1 : Int32).toUInt32 &&& Int32.toUInt32 31)).toInt32) fun v2 => cs1 (ce_X3_compare vl K r0 v2 r1 x2 z) fun v4 z3 => (if v4 = 0 then some ((((x3 + x4) : Int32).toUInt32 >>> ((1 : Int32).toUInt32 &&& Int32.toUInt32 31)).toInt32, z3)
 else (if 0 ≤ v4 then go 2 x2 x3 ((((x3 + x4) : Int32).toUInt32 >>> ((1 : Int32).toUInt32 &&& Int32.toUInt32 31)).toInt32) x5 ((((x3 + x4) : Int32).toUInt32 >>> ((1 : Int32).toUInt32 &&& Int32.toUInt32 31)).toInt32) v4 r0 r1 z3
 else go 2 x2 (((((x3 + x4) : Int32).toUInt32 >>> ((1 : Int32).toUInt32 &&& Int32.toUInt32 31)).toInt32) + 1) x4 x5 ((((x3 + x4) : Int32).toUInt32 >>> ((1 : Int32).toUInt32 &&& Int32.toUInt32 31)).toInt32) v4 r0 r1 z3))))
def cm_X3_find_2 (vl : Nat → Nat) (K : Nat) (go : Nat → Int32 → Int32 → Int32 → Int32 → Int32 → Int32 → Nat → Nat → ow_MS → Option (Int32 × ow_MS)) (x2 : Int32) (x3 : Int32) (x4 : Int32) (x5 : Int32) (x6 : Int32) (x7 : Int32) (r0 : Nat) (r1 : Nat) (z : ow_MS) : Option (Int32 × ow_MS) :=
 go 1 x2 x3 x4 (x5 + 1) 0 0 r0 r1 z
def cb_X3_find (vl : Nat → Nat) (K : Nat) (go : Nat → Int32 → Int32 → Int32 → Int32 → Int32 → Int32 → Nat → Nat → ow_MS → Option (Int32 × ow_MS)) (L : Nat) (x2 : Int32) (x3 : Int32) (x4 : Int32) (x5 : Int32) (x6 : Int32) (x7 : Int32) (r0 : Nat) (r1 : Nat) (z : ow_MS) : Option (Int32 × ow_MS) := match L with
  | 0 => cm_X3_find_0 vl K go x2 x3 x4 x5 x6 x7 r0 r1 z
  | 1 => cm_X3_find_1 vl K go x2 x3 x4 x5 x6 x7 r0 r1 z
  | 2 => cm_X3_find_2 vl K go x2 x3 x4 x5 x6 x7 r0 r1 z
  | _ => none
def c_X3_find (vl : Nat → Nat) (K : Nat) : Nat → Nat → Int32 → Int32 → Int32 → Int32 → Int32 → Int32 → Nat → Nat → ow_MS → Option (Int32 × ow_MS)
  | 0 => fun _ _ _ _ _ _ _ _ _ _ => none
  | k + 1 => cb_X3_find vl K (c_X3_find vl K k)
def ce_X3_find (vl : Nat → Nat) (K : Nat) (r0 : Nat) (r1 : Nat) (x2 : Int32) (z : ow_MS) : Option (Int32 × ow_MS) := c_X3_find vl K K 0 x2 0 0 0 0 0 r0 r1 z
abbrev wc_X3_find : List Cond := .code yX3_find cX3_find 8 (some .int) :: wC
theorem cdd_X3_find : yX3_find.cls = RX3 ∧ yX3_find.cls ≠ "java/lang/invoke/MethodHandle" ∧ yX3_find.cls ≠ "java/lang/invoke/VarHandle" ∧ (parseMethodDescriptor yX3_find.desc).map (fun d => d.parameters.length) = some 2 := by decide +kernel
set_option maxHeartbeats 4000000 in
set_option maxRecDepth 100000 in
theorem kc_X3_find (l : Launch) (D : va_G) (q : Nat → ClassId) (vl u : Nat → Nat) (hU0 : tw_inj (cX vl) u) (K : Nat) (r0 : Nat) (r1 : Nat) (x2 : Int32) (hr0 : cw_X3 r0) (hr1 : cw_X3 r1) (z z1 : ow_MS) (r : Int32) (hq : ce_X3_find vl K r0 r1 x2 z = some (r, z1)) : Met l yX3_find wc_X3_find ({ frames := 2, cells := 0, slots := 0, locals := 57 } : Room) (va_Pc [.ref (u r0), .ref (u r1), .int x2] (cw_pre D q vl u z)) (va_Qi (fun x (_ : Unit) => x = r) (fun _ t => va_P D vwCl (uw (cX vl) q u z1) t.heap) (tw_A (cX vl) u)) 0 0 (tw_A (cX vl) u) := by
  refine Met.ofW (cc := cX3_find) (maxL := 8) (ret := (some .int)) (by decide) rfl ?_
  intro p e s m args below meth c s₁ B hml hv
  obtain ⟨rfl, hP, hK⟩ := hv
  have hx := B.exec
  have hb := B.bytes
  have hr := B.returns
  have hts := atoms_spec (ws := wc_X3_find) B.pre
  have hT : ∀ w ∈ wC, w.before ([.ref (u r0), .ref (u r1), .int x2] : List Value).toArray s = true := fun w h => hts w (List.mem_cons_of_mem _ h)
  have hown : s.vm.findClass RX3 = some m.cls := findClass_of_methodNamed B.named
  have hlocks := B.notSynchronized
  have hU : uw_inj (cX vl) u (tw_A (cX vl) u) := ⟨hU0, fun h hh => ⟨h, hh, rfl⟩⟩
  have hM : uw_M D vwCl (cX vl) q (tw_A (cX vl) u) s.heap u z s.heap [] := ⟨hP, va_S.rf⟩
  have hl := lv_entry ([.ref (u r0), .ref (u r1), .int x2]) (n := 8) (Nat.le_of_ble_eq_true rfl)
  rw [lg_entry_eq]
  generalize (lg_sl ([.ref (u r0), .ref (u r1), .int x2]) ++ List.replicate (8 - (lg_sl ([.ref (u r0), .ref (u r1), .int x2])).length) Slot.unset).toArray = ls at hl ⊢
  have hl : lv_has ls 8 [(0, .ref (u r0)), (1, .ref (u r1)), (2, .int x2)] := hl
  refine ow_named (fun QQ hQQ => ?_)
  generalize ([.ref (u r0), .ref (u r1), .int x2] : List Value).toArray = args at hts hT hQQ ⊢
  have key : ∀ k : Nat, (∀ (x2 : Int32) (x3 : Int32) (x4 : Int32) (x5 : Int32) (x6 : Int32) (x7 : Int32) (r0 : Nat) (r1 : Nat) (z : ow_MS) (H : Heap) (locs : List Loc) (ls : Array Slot), cw_X3 r0 → cw_X3 r1 → uw_M D vwCl (cX vl) q (tw_A (cX vl) u) s.heap u z H locs → lv_has ls 8 [(0, .ref (u r0)), (1, .ref (u r1)), (2, .int x2)] → c_X3_find vl K k 0 x2 x3 x4 x5 x6 x7 r0 r1 z = some (r, z1) → W p l e ({ frames := 2, cells := 0, slots := 0, locals := 57 } : Room) s m args below meth c H locs 0 0 QQ (F0 m 0 ls [])) ∧ (∀ (x2 : Int32) (x3 : Int32) (x4 : Int32) (x5 : Int32) (x6 : Int32) (x7 : Int32) (r0 : Nat) (r1 : Nat) (z : ow_MS) (H : Heap) (locs : List Loc) (ls : Array Slot), cw_X3 r0 → cw_X3 r1 → uw_M D vwCl (cX vl) q (tw_A (cX vl) u) s.heap u z H locs → lv_has ls 8 [(0, .ref (u r0)), (1, .ref (u r1)), (2, .int x2), (3, .int x3), (4, .int x4), (5, .int x5)] → c_X3_find vl K k 1 x2 x3 x4 x5 x6 x7 r0 r1 z = some (r, z1) → W p l e ({ frames := 2, cells := 0, slots := 0, locals := 57 } : Room) s m args below meth c H locs 0 0 QQ (F0 m 11 ls [])) ∧ (∀ (x2 : Int32) (x3 : Int32) (x4 : Int32) (x5 : Int32) (x6 : Int32) (x7 : Int32) (r0 : Nat) (r1 : Nat) (z : ow_MS) (H : Heap) (locs : List Loc) (ls : Array Slot), cw_X3 r0 → cw_X3 r1 → uw_M D vwCl (cX vl) q (tw_A (cX vl) u) s.heap u z H locs → lv_has ls 8 [(0, .ref (u r0)), (1, .ref (u r1)), (2, .int x2), (3, .int x3), (4, .int x4), (5, .int x5), (6, .int x6), (7, .int x7)] → c_X3_find vl K k 2 x2 x3 x4 x5 x6 x7 r0 r1 z = some (r, z1) → W p l e ({ frames := 2, cells := 0, slots := 0, locals := 57 } : Room) s m args below meth c H locs 0 0 QQ (F0 m 72 ls [])) := by
    intro k
    induction k with
    | zero => exact ⟨fun _ _ _ _ _ _ _ _ _ _ _ _ _ _ _ _ hq => cw_no hq, fun _ _ _ _ _ _ _ _ _ _ _ _ _ _ _ _ hq => cw_no hq, fun _ _ _ _ _ _ _ _ _ _ _ _ _ _ _ _ hq => cw_no hq⟩
    | succ k ih =>
      obtain ⟨ih_0, ih_1, ih_2⟩ := ih
      refine ⟨?_, ?_, ?_⟩
      · intro x2 x3 x4 x5 x6 x7 r0 r1 z H locs ls hr0 hr1 hM hl hq
        have hq : cm_X3_find_0 vl K (c_X3_find vl K k) x2 x3 x4 x5 x6 x7 r0 r1 z = some (r, z1) := hq
        unfold cm_X3_find_0 at hq
        refine lv_iconst (v := 0) hx hb dcX3_find_0 (by decide) ?_
        refine lv_istore_n (lv' := [(3, .int 0), (0, .ref (u r0)), (1, .ref (u r1)), (2, .int x2)]) hx hb dcX3_find_1 rfl hl (by decide) rfl (fun ls hl => ?_)
        refine lv_aload_n hx hb dcX3_find_2 rfl (lv_at hl 1 rfl) ?_
        refine vgX3_37 hx hb hT hown hK hM hr0 hq dcX3_find_3 (fun v1 hq => ?_)
        refine lv_istore (lv' := [(4, .int v1), (3, .int 0), (0, .ref (u r0)), (1, .ref (u r1)), (2, .int x2)]) hx hb dcX3_find_6 hl (by decide) rfl (fun ls hl => ?_)
        refine lv_iconst (v := 0) hx hb dcX3_find_8 (by decide) ?_
        refine lv_istore (lv' := [(5, .int 0), (4, .int v1), (3, .int 0), (0, .ref (u r0)), (1, .ref (u r1)), (2, .int x2)]) hx hb dcX3_find_9 hl (by decide) rfl (fun ls hl => ?_)
        exact ih_1 x2 0 v1 0 0 0 r0 r1 z H locs ls hr0 hr1 hM (lv_sub hl [3, 4, 5, 2, 1, 0] rfl) hq
      · intro x2 x3 x4 x5 x6 x7 r0 r1 z H locs ls hr0 hr1 hM hl hq
        have hq : cm_X3_find_1 vl K (c_X3_find vl K k) x2 x3 x4 x5 x6 x7 r0 r1 z = some (r, z1) := hq
        unfold cm_X3_find_1 at hq
        refine lv_iload hx hb dcX3_find_11 (lv_at hl 5 rfl) ?_
        refine lv_bipush (v := 32) hx hb dcX3_find_13 (by decide) ?_
        refine lv_icmp_ge (tgt := 78) hx hb dcX3_find_15 (by decide) (fun hc => ?_) (fun hc => ?_)
        · have hq := tw_it hq hc
          refine lv_iconst (v := (-1)) hx hb dcX3_find_78 (by decide) ?_
          refine lv_iload_n hx hb dcX3_find_79 rfl (lv_at hl 3 rfl) ?_
          refine lv_isub hx hb dcX3_find_80 ?_
          exact cw_iret hx hb hr hlocks hM hq hQQ dcX3_find_81
        · have hq := tw_if hq hc
          refine lv_iload_n hx hb dcX3_find_18 rfl (lv_at hl 3 rfl) ?_
          refine lv_iload hx hb dcX3_find_19 (lv_at hl 4 rfl) ?_
          refine lv_icmp_ge (tgt := 78) hx hb dcX3_find_21 (by decide) (fun hc => ?_) (fun hc => ?_)
          · have hq := tw_it hq hc
            refine lv_iconst (v := (-1)) hx hb dcX3_find_78 (by decide) ?_
            refine lv_iload_n hx hb dcX3_find_79 rfl (lv_at hl 3 rfl) ?_
            refine lv_isub hx hb dcX3_find_80 ?_
            exact cw_iret hx hb hr hlocks hM hq hQQ dcX3_find_81
          · have hq := tw_if hq hc
            refine lv_iload_n hx hb dcX3_find_24 rfl (lv_at hl 3 rfl) ?_
            refine lv_iload hx hb dcX3_find_25 (lv_at hl 4 rfl) ?_
            refine lv_iadd hx hb dcX3_find_27 ?_
            refine lv_iconst (v := 1) hx hb dcX3_find_28 (by decide) ?_
            refine lv_iushr hx hb dcX3_find_29 rfl ?_
            refine lv_istore (lv' := [(6, .int ((((x3 + x4) : Int32).toUInt32 >>> ((1 : Int32).toUInt32 &&& Int32.toUInt32 31)).toInt32)), (0, .ref (u r0)), (1, .ref (u r1)), (2, .int x2), (3, .int x3), (4, .int x4), (5, .int x5)]) hx hb dcX3_find_30 hl (by decide) rfl (fun ls hl => ?_)
            refine lv_aload_n hx hb dcX3_find_32 rfl (lv_at hl 1 rfl) ?_
            refine lv_aload_n hx hb dcX3_find_33 rfl (lv_at hl 1 rfl) ?_
            refine vgX3_21 hx hb hT hown hK hM hr0 dcX3_find_34 ?_
            refine lv_iload hx hb dcX3_find_37 (lv_at hl 0 rfl) ?_
            refine uw_iald cX_ok hx hb hK hM (cr_X3_3 hr0) hq dcX3_find_39 (fun v2 hq => ?_)
            refine lv_aload_n hx hb dcX3_find_40 rfl (lv_at hl 2 rfl) ?_
            refine lv_iload_n hx hb dcX3_find_41 rfl (lv_at hl 3 rfl) ?_
            obtain ⟨v4, z3, hcq, hq⟩ := tw_cl1 hq
            refine uw_cali hU hM (va_runV (As := [.int v2, .ref (u r1), .int x2]) (rest := []) ⟨hx, hb, hml, hown, hts⟩ (kc_X3_compare l D q vl u hU.1 K r0 v2 r1 x2 hr0 hr1 z z3 v4 hcq) (cwV 3 hts (tw_gV wC_good xq_317 xq_318 xq_319 xq_313 xq_320) rfl rfl rfl cdd_X3_compare ⟨(Nat.le_of_ble_eq_true rfl), (Nat.le_of_ble_eq_true rfl)⟩) (cw_preV hK hM (co_X3 hr0) rfl) rfl rfl hl.1 rfl (lv_room (Nat.le_of_ble_eq_true rfl)) dcX3_find_42 ⟨(Nat.le_of_ble_eq_true rfl), (Nat.le_of_ble_eq_true rfl)⟩) (fun H locs hM => ?_)
            refine lv_istore (lv' := [(7, .int v4), (6, .int ((((x3 + x4) : Int32).toUInt32 >>> ((1 : Int32).toUInt32 &&& Int32.toUInt32 31)).toInt32)), (0, .ref (u r0)), (1, .ref (u r1)), (2, .int x2), (3, .int x3), (4, .int x4), (5, .int x5)]) hx hb dcX3_find_45 hl (by decide) rfl (fun ls hl => ?_)
            refine lv_iload hx hb dcX3_find_47 (lv_at hl 0 rfl) ?_
            refine lv_if_ne (tgt := 55) hx hb dcX3_find_49 (by decide) (fun hc => ?_) (fun hc => ?_)
            · have hq := tw_if hq hc
              refine lv_iload hx hb dcX3_find_55 (lv_at hl 0 rfl) ?_
              refine lv_if_ge (tgt := 68) hx hb dcX3_find_57 (by decide) (fun hc => ?_) (fun hc => ?_)
              · have hq := tw_it hq hc
                refine lv_iload hx hb dcX3_find_68 (lv_at hl 1 rfl) ?_
                refine lv_istore (lv' := [(4, .int ((((x3 + x4) : Int32).toUInt32 >>> ((1 : Int32).toUInt32 &&& Int32.toUInt32 31)).toInt32)), (7, .int v4), (6, .int ((((x3 + x4) : Int32).toUInt32 >>> ((1 : Int32).toUInt32 &&& Int32.toUInt32 31)).toInt32)), (0, .ref (u r0)), (1, .ref (u r1)), (2, .int x2), (3, .int x3), (5, .int x5)]) hx hb dcX3_find_70 hl (by decide) rfl (fun ls hl => ?_)
                exact ih_2 x2 x3 ((((x3 + x4) : Int32).toUInt32 >>> ((1 : Int32).toUInt32 &&& Int32.toUInt32 31)).toInt32) x5 ((((x3 + x4) : Int32).toUInt32 >>> ((1 : Int32).toUInt32 &&& Int32.toUInt32 31)).toInt32) v4 r0 r1 z3 H locs ls hr0 hr1 hM (lv_sub hl [3, 4, 5, 6, 0, 7, 2, 1] rfl) hq
              · have hq := tw_if hq hc
                refine lv_iload hx hb dcX3_find_60 (lv_at hl 1 rfl) ?_
                refine lv_iconst (v := 1) hx hb dcX3_find_62 (by decide) ?_
                refine lv_iadd hx hb dcX3_find_63 ?_
                refine lv_istore_n (lv' := [(3, .int (((((x3 + x4) : Int32).toUInt32 >>> ((1 : Int32).toUInt32 &&& Int32.toUInt32 31)).toInt32) + 1)), (7, .int v4), (6, .int ((((x3 + x4) : Int32).toUInt32 >>> ((1 : Int32).toUInt32 &&& Int32.toUInt32 31)).toInt32)), (0, .ref (u r0)), (1, .ref (u r1)), (2, .int x2), (4, .int x4), (5, .int x5)]) hx hb dcX3_find_64 rfl hl (by decide) rfl (fun ls hl => ?_)
                refine lv_goto (tgt := 72) hx hb dcX3_find_65 (by decide) ?_
                exact ih_2 x2 (((((x3 + x4) : Int32).toUInt32 >>> ((1 : Int32).toUInt32 &&& Int32.toUInt32 31)).toInt32) + 1) x4 x5 ((((x3 + x4) : Int32).toUInt32 >>> ((1 : Int32).toUInt32 &&& Int32.toUInt32 31)).toInt32) v4 r0 r1 z3 H locs ls hr0 hr1 hM (lv_sub hl [3, 4, 5, 0, 6, 7, 2, 1] rfl) hq
            · have hq := tw_it hq hc
              refine lv_iload hx hb dcX3_find_52 (lv_at hl 1 rfl) ?_
              exact cw_iret hx hb hr hlocks hM hq hQQ dcX3_find_54
      · intro x2 x3 x4 x5 x6 x7 r0 r1 z H locs ls hr0 hr1 hM hl hq
        have hq : cm_X3_find_2 vl K (c_X3_find vl K k) x2 x3 x4 x5 x6 x7 r0 r1 z = some (r, z1) := hq
        unfold cm_X3_find_2 at hq
        refine lv_iinc (v := (x5 + 1)) (lv' := [(5, .int (x5 + 1)), (0, .ref (u r0)), (1, .ref (u r1)), (2, .int x2), (3, .int x3), (4, .int x4), (6, .int x6), (7, .int x7)]) hx hb dcX3_find_72 hl (k := 5) rfl rfl (by decide) rfl (fun ls hl => ?_)
        refine lv_goto (tgt := 11) hx hb dcX3_find_75 (by decide) ?_
        exact ih_1 x2 x3 x4 (x5 + 1) 0 0 r0 r1 z H locs ls hr0 hr1 hM (lv_sub hl [1, 2, 3, 4, 5, 0] rfl) hq
  exact (key K).1 x2 0 0 0 0 0 r0 r1 z s.heap [] ls hr0 hr1 hM (lv_sub hl [0, 1, 2] rfl) hq
theorem dcX3_write_0 : decode cX3_write 0 = .ok (.aload_n 2, 1) := dw_at cX3_write_k0 (p := 0) rfl (by decide +kernel)
theorem dcX3_write_1 : decode cX3_write 1 = .ok (.getfield 9, 3) := dw_at cX3_write_k0 (p := 1) rfl (by decide +kernel)
theorem dcX3_write_4 : decode cX3_write 4 = .ok (.iload_n 3, 1) := dw_at cX3_write_k0 (p := 4) rfl (by decide +kernel)
theorem dcX3_write_5 : decode cX3_write 5 = .ok (.bipush 30, 2) := dw_at cX3_write_k0 (p := 5) rfl (by decide +kernel)
theorem dcX3_write_7 : decode cX3_write 7 = .ok (.imul, 1) := dw_at cX3_write_k0 (p := 7) rfl (by decide +kernel)
theorem dcX3_write_8 : decode cX3_write 8 = .ok (.aload_n 0, 1) := dw_at cX3_write_k0 (p := 8) rfl (by decide +kernel)
theorem dcX3_write_9 : decode cX3_write 9 = .ok (.getfield 9, 3) := dw_at cX3_write_k0 (p := 9) rfl (by decide +kernel)
theorem dcX3_write_12 : decode cX3_write 12 = .ok (.iload_n 1, 1) := dw_at cX3_write_k0 (p := 12) rfl (by decide +kernel)
theorem dcX3_write_13 : decode cX3_write 13 = .ok (.bipush 30, 2) := dw_at cX3_write_k0 (p := 13) rfl (by decide +kernel)
theorem dcX3_write_15 : decode cX3_write 15 = .ok (.imul, 1) := dw_at cX3_write_k0 (p := 15) rfl (by decide +kernel)
theorem dcX3_write_16 : decode cX3_write 16 = .ok (.bipush 30, 2) := dw_at cX3_write_k0 (p := 16) rfl (by decide +kernel)
theorem dcX3_write_18 : decode cX3_write 18 = .ok (.invokestatic 25, 3) := dw_at cX3_write_k0 (p := 18) rfl (by decide +kernel)
theorem dcX3_write_21 : decode cX3_write 21 = .ok (.aload_n 0, 1) := dw_at cX3_write_k0 (p := 21) rfl (by decide +kernel)
theorem dcX3_write_22 : decode cX3_write 22 = .ok (.getfield 15, 3) := dw_at cX3_write_k0 (p := 22) rfl (by decide +kernel)
theorem dcX3_write_25 : decode cX3_write 25 = .ok (.iload_n 1, 1) := dw_at cX3_write_k1 (p := 0) rfl (by decide +kernel)
theorem dcX3_write_26 : decode cX3_write 26 = .ok (.aload_n 2, 1) := dw_at cX3_write_k1 (p := 1) rfl (by decide +kernel)
theorem dcX3_write_27 : decode cX3_write 27 = .ok (.getfield 15, 3) := dw_at cX3_write_k1 (p := 2) rfl (by decide +kernel)
theorem dcX3_write_30 : decode cX3_write 30 = .ok (.iload_n 3, 1) := dw_at cX3_write_k1 (p := 5) rfl (by decide +kernel)
theorem dcX3_write_31 : decode cX3_write 31 = .ok (.baload, 1) := dw_at cX3_write_k1 (p := 6) rfl (by decide +kernel)
theorem dcX3_write_32 : decode cX3_write 32 = .ok (.bastore, 1) := dw_at cX3_write_k1 (p := 7) rfl (by decide +kernel)
theorem dcX3_write_33 : decode cX3_write 33 = .ok (.aload_n 0, 1) := dw_at cX3_write_k1 (p := 8) rfl (by decide +kernel)
theorem dcX3_write_34 : decode cX3_write 34 = .ok (.getfield 18, 3) := dw_at cX3_write_k1 (p := 9) rfl (by decide +kernel)
theorem dcX3_write_37 : decode cX3_write 37 = .ok (.iload_n 1, 1) := dw_at cX3_write_k1 (p := 12) rfl (by decide +kernel)
theorem dcX3_write_38 : decode cX3_write 38 = .ok (.aload_n 2, 1) := dw_at cX3_write_k1 (p := 13) rfl (by decide +kernel)
theorem dcX3_write_39 : decode cX3_write 39 = .ok (.getfield 18, 3) := dw_at cX3_write_k1 (p := 14) rfl (by decide +kernel)
theorem dcX3_write_42 : decode cX3_write 42 = .ok (.iload_n 3, 1) := dw_at cX3_write_k1 (p := 17) rfl (by decide +kernel)
theorem dcX3_write_43 : decode cX3_write 43 = .ok (.baload, 1) := dw_at cX3_write_k1 (p := 18) rfl (by decide +kernel)
theorem dcX3_write_44 : decode cX3_write 44 = .ok (.bastore, 1) := dw_at cX3_write_k1 (p := 19) rfl (by decide +kernel)
theorem dcX3_write_45 : decode cX3_write 45 = .ok (.return_, 1) := dw_at cX3_write_k1 (p := 20) rfl (by decide +kernel)
def cm_X3_write_0 (vl : Nat → Nat) (K : Nat) (x1 : Int32) (x3 : Int32) (r0 : Nat) (r2 : Nat) (z : ow_MS) : Option ow_MS :=
 cpB (cX vl) z (r2 + 1) (x3 * 30) (r0 + 1) (x1 * 30) 30 fun z1 => crI (cX vl) z1 (r2 + 2) x3 fun v2 => ctB (cX vl) z1 (r0 + 2) x1 v2 fun z3 => crI (cX vl) z3 (r2 + 3) x3 fun v4 => ctB (cX vl) z3 (r0 + 3) x1 v4 fun z5 => some z5
def ce_X3_write (vl : Nat → Nat) (K : Nat) (r0 : Nat) (x1 : Int32) (r2 : Nat) (x3 : Int32) (z : ow_MS) : Option ow_MS := cm_X3_write_0 vl K x1 x3 r0 r2 z
abbrev wc_X3_write : List Cond := .code yX3_write cX3_write 4 none :: wC
theorem cdd_X3_write : yX3_write.cls = RX3 ∧ yX3_write.cls ≠ "java/lang/invoke/MethodHandle" ∧ yX3_write.cls ≠ "java/lang/invoke/VarHandle" ∧ (parseMethodDescriptor yX3_write.desc).map (fun d => d.parameters.length) = some 3 := by decide +kernel
set_option maxHeartbeats 4000000 in
set_option maxRecDepth 100000 in
theorem kc_X3_write (l : Launch) (D : va_G) (q : Nat → ClassId) (vl u : Nat → Nat) (hU0 : tw_inj (cX vl) u) (K : Nat) (r0 : Nat) (x1 : Int32) (r2 : Nat) (x3 : Int32) (hr0 : cw_X3 r0) (hr2 : cw_X3 r2) (z z1 : ow_MS) (hq : ce_X3_write vl K r0 x1 r2 x3 z = some z1) : Met l yX3_write wc_X3_write ({ frames := 1, cells := 0, slots := 0, locals := 60 } : Room) (va_Pc [.ref (u r0), .int x1, .ref (u r2), .int x3] (cw_pre D q vl u z)) (va_Qv (fun (_ : Unit) => True) (fun _ t => va_P D vwCl (uw (cX vl) q u z1) t.heap) (tw_A (cX vl) u)) 0 0 (tw_A (cX vl) u) := by
  refine Met.ofW (cc := cX3_write) (maxL := 4) (ret := none) (by decide) rfl ?_
  intro p e s m args below meth c s₁ B hml hv
  obtain ⟨rfl, hP, hK⟩ := hv
  have hx := B.exec
  have hb := B.bytes
  have hr := B.returns
  have hts := atoms_spec (ws := wc_X3_write) B.pre
  have hT : ∀ w ∈ wC, w.before ([.ref (u r0), .int x1, .ref (u r2), .int x3] : List Value).toArray s = true := fun w h => hts w (List.mem_cons_of_mem _ h)
  have hown : s.vm.findClass RX3 = some m.cls := findClass_of_methodNamed B.named
  have hlocks := B.notSynchronized
  have hU : uw_inj (cX vl) u (tw_A (cX vl) u) := ⟨hU0, fun h hh => ⟨h, hh, rfl⟩⟩
  have hM : uw_M D vwCl (cX vl) q (tw_A (cX vl) u) s.heap u z s.heap [] := ⟨hP, va_S.rf⟩
  have hl := lv_entry ([.ref (u r0), .int x1, .ref (u r2), .int x3]) (n := 4) (Nat.le_of_ble_eq_true rfl)
  rw [lg_entry_eq]
  generalize (lg_sl ([.ref (u r0), .int x1, .ref (u r2), .int x3]) ++ List.replicate (4 - (lg_sl ([.ref (u r0), .int x1, .ref (u r2), .int x3])).length) Slot.unset).toArray = ls at hl ⊢
  have hl : lv_has ls 4 [(0, .ref (u r0)), (1, .int x1), (2, .ref (u r2)), (3, .int x3)] := hl
  refine ow_named (fun QQ hQQ => ?_)
  generalize ([.ref (u r0), .int x1, .ref (u r2), .int x3] : List Value).toArray = args at hts hT hQQ ⊢
  have hq : cm_X3_write_0 vl K x1 x3 r0 r2 z = some z1 := hq
  unfold cm_X3_write_0 at hq
  suffices key : ∀ (H : Heap) (locs : List Loc), uw_M D vwCl (cX vl) q (tw_A (cX vl) u) s.heap u z H locs → W p l e ({ frames := 1, cells := 0, slots := 0, locals := 60 } : Room) s m args below meth c H locs 0 0 QQ (F0 m 0 ls []) from key s.heap [] hM
  intro H locs hM
  refine lv_aload_n hx hb dcX3_write_0 rfl (lv_at hl 2 rfl) ?_
  refine vgX3_9 hx hb hT hown hK hM hr2 dcX3_write_1 ?_
  refine lv_iload_n hx hb dcX3_write_4 rfl (lv_at hl 3 rfl) ?_
  refine lv_bipush (v := 30) hx hb dcX3_write_5 (by decide) ?_
  refine lv_imul hx hb dcX3_write_7 ?_
  refine lv_aload_n hx hb dcX3_write_8 rfl (lv_at hl 0 rfl) ?_
  refine vgX3_9 hx hb hT hown hK hM hr0 dcX3_write_9 ?_
  refine lv_iload_n hx hb dcX3_write_12 rfl (lv_at hl 1 rfl) ?_
  refine lv_bipush (v := 30) hx hb dcX3_write_13 (by decide) ?_
  refine lv_imul hx hb dcX3_write_15 ?_
  refine lv_bipush (v := 30) hx hb dcX3_write_16 (by decide) ?_
  refine uw_cpB cX_ok hU hx hb (by rw [hml]; exact hl.1.symm) hown (hT _ xq_329) (hT _ xq_130) (hT _ xq_131) (hT _ xq_132) hK hM (cr_X3_0 hr2) (cr_X3_0 hr0) hq (Nat.le_of_ble_eq_true rfl) (by decide) dcX3_write_18 (fun z1 H locs hM hq => ?_)
  refine lv_aload_n hx hb dcX3_write_21 rfl (lv_at hl 0 rfl) ?_
  refine vgX3_15 hx hb hT hown hK hM hr0 dcX3_write_22 ?_
  refine lv_iload_n hx hb dcX3_write_25 rfl (lv_at hl 1 rfl) ?_
  refine lv_aload_n hx hb dcX3_write_26 rfl (lv_at hl 2 rfl) ?_
  refine vgX3_15 hx hb hT hown hK hM hr2 dcX3_write_27 ?_
  refine lv_iload_n hx hb dcX3_write_30 rfl (lv_at hl 3 rfl) ?_
  refine uw_bald cX_ok hx hb hK hM (cr_X3_1 hr2) hq dcX3_write_31 (fun v2 hq => ?_)
  refine uw_bast cX_ok hU hx hb hK hM (cr_X3_1 hr0) hq dcX3_write_32 (fun z3 H locs hM hq => ?_)
  refine lv_aload_n hx hb dcX3_write_33 rfl (lv_at hl 0 rfl) ?_
  refine vgX3_18 hx hb hT hown hK hM hr0 dcX3_write_34 ?_
  refine lv_iload_n hx hb dcX3_write_37 rfl (lv_at hl 1 rfl) ?_
  refine lv_aload_n hx hb dcX3_write_38 rfl (lv_at hl 2 rfl) ?_
  refine vgX3_18 hx hb hT hown hK hM hr2 dcX3_write_39 ?_
  refine lv_iload_n hx hb dcX3_write_42 rfl (lv_at hl 3 rfl) ?_
  refine uw_bald cX_ok hx hb hK hM (cr_X3_2 hr2) hq dcX3_write_43 (fun v4 hq => ?_)
  refine uw_bast cX_ok hU hx hb hK hM (cr_X3_2 hr0) hq dcX3_write_44 (fun z5 H locs hM hq => ?_)
  exact cw_vret hx hb hr hlocks hM hq hQQ dcX3_write_45
theorem dcX3_insert_0 : decode cX3_insert 0 = .ok (.aload_n 0, 1) := dw_at cX3_insert_k0 (p := 0) rfl (by decide +kernel)
theorem dcX3_insert_1 : decode cX3_insert 1 = .ok (.getfield 37, 3) := dw_at cX3_insert_k0 (p := 1) rfl (by decide +kernel)
theorem dcX3_insert_4 : decode cX3_insert 4 = .ok (.aload_n 0, 1) := dw_at cX3_insert_k0 (p := 4) rfl (by decide +kernel)
theorem dcX3_insert_5 : decode cX3_insert 5 = .ok (.getfield 21, 3) := dw_at cX3_insert_k0 (p := 5) rfl (by decide +kernel)
theorem dcX3_insert_8 : decode cX3_insert 8 = .ok (.arraylength, 1) := dw_at cX3_insert_k0 (p := 8) rfl (by decide +kernel)
theorem dcX3_insert_9 : decode cX3_insert 9 = .ok (.if_icmp .lt 4, 3) := dw_at cX3_insert_k0 (p := 9) rfl (by decide +kernel)
theorem dcX3_insert_12 : decode cX3_insert 12 = .ok (.return_, 1) := dw_at cX3_insert_k0 (p := 12) rfl (by decide +kernel)
theorem dcX3_insert_13 : decode cX3_insert 13 = .ok (.aload_n 0, 1) := dw_at cX3_insert_k0 (p := 13) rfl (by decide +kernel)
theorem dcX3_insert_14 : decode cX3_insert 14 = .ok (.aload_n 0, 1) := dw_at cX3_insert_k0 (p := 14) rfl (by decide +kernel)
theorem dcX3_insert_15 : decode cX3_insert 15 = .ok (.getfield 37, 3) := dw_at cX3_insert_k0 (p := 15) rfl (by decide +kernel)
theorem dcX3_insert_18 : decode cX3_insert 18 = .ok (.aload_n 2, 1) := dw_at cX3_insert_k0 (p := 18) rfl (by decide +kernel)
theorem dcX3_insert_19 : decode cX3_insert 19 = .ok (.iload_n 3, 1) := dw_at cX3_insert_k0 (p := 19) rfl (by decide +kernel)
theorem dcX3_insert_20 : decode cX3_insert 20 = .ok (.invokevirtual 53, 3) := dw_at cX3_insert_k0 (p := 20) rfl (by decide +kernel)
theorem dcX3_insert_23 : decode cX3_insert 23 = .ok (.aload_n 0, 1) := dw_at cX3_insert_k0 (p := 23) rfl (by decide +kernel)
theorem dcX3_insert_24 : decode cX3_insert 24 = .ok (.getfield 21, 3) := dw_at cX3_insert_k1 (p := 0) rfl (by decide +kernel)
theorem dcX3_insert_27 : decode cX3_insert 27 = .ok (.iload_n 1, 1) := dw_at cX3_insert_k1 (p := 3) rfl (by decide +kernel)
theorem dcX3_insert_28 : decode cX3_insert 28 = .ok (.aload_n 0, 1) := dw_at cX3_insert_k1 (p := 4) rfl (by decide +kernel)
theorem dcX3_insert_29 : decode cX3_insert 29 = .ok (.getfield 21, 3) := dw_at cX3_insert_k1 (p := 5) rfl (by decide +kernel)
theorem dcX3_insert_32 : decode cX3_insert 32 = .ok (.iload_n 1, 1) := dw_at cX3_insert_k1 (p := 8) rfl (by decide +kernel)
theorem dcX3_insert_33 : decode cX3_insert 33 = .ok (.iconst 1, 1) := dw_at cX3_insert_k1 (p := 9) rfl (by decide +kernel)
theorem dcX3_insert_34 : decode cX3_insert 34 = .ok (.iadd, 1) := dw_at cX3_insert_k1 (p := 10) rfl (by decide +kernel)
theorem dcX3_insert_35 : decode cX3_insert 35 = .ok (.aload_n 0, 1) := dw_at cX3_insert_k1 (p := 11) rfl (by decide +kernel)
theorem dcX3_insert_36 : decode cX3_insert 36 = .ok (.getfield 37, 3) := dw_at cX3_insert_k1 (p := 12) rfl (by decide +kernel)
theorem dcX3_insert_39 : decode cX3_insert 39 = .ok (.iload_n 1, 1) := dw_at cX3_insert_k1 (p := 15) rfl (by decide +kernel)
theorem dcX3_insert_40 : decode cX3_insert 40 = .ok (.isub, 1) := dw_at cX3_insert_k1 (p := 16) rfl (by decide +kernel)
theorem dcX3_insert_41 : decode cX3_insert 41 = .ok (.invokestatic 25, 3) := dw_at cX3_insert_k1 (p := 17) rfl (by decide +kernel)
theorem dcX3_insert_44 : decode cX3_insert 44 = .ok (.aload_n 0, 1) := dw_at cX3_insert_k1 (p := 20) rfl (by decide +kernel)
theorem dcX3_insert_45 : decode cX3_insert 45 = .ok (.getfield 21, 3) := dw_at cX3_insert_k1 (p := 21) rfl (by decide +kernel)
theorem dcX3_insert_48 : decode cX3_insert 48 = .ok (.iload_n 1, 1) := dw_at cX3_insert_k2 (p := 0) rfl (by decide +kernel)
theorem dcX3_insert_49 : decode cX3_insert 49 = .ok (.aload_n 0, 1) := dw_at cX3_insert_k2 (p := 1) rfl (by decide +kernel)
theorem dcX3_insert_50 : decode cX3_insert 50 = .ok (.getfield 37, 3) := dw_at cX3_insert_k2 (p := 2) rfl (by decide +kernel)
theorem dcX3_insert_53 : decode cX3_insert 53 = .ok (.iastore, 1) := dw_at cX3_insert_k2 (p := 5) rfl (by decide +kernel)
theorem dcX3_insert_54 : decode cX3_insert 54 = .ok (.aload_n 0, 1) := dw_at cX3_insert_k2 (p := 6) rfl (by decide +kernel)
theorem dcX3_insert_55 : decode cX3_insert 55 = .ok (.dup, 1) := dw_at cX3_insert_k2 (p := 7) rfl (by decide +kernel)
theorem dcX3_insert_56 : decode cX3_insert 56 = .ok (.getfield 37, 3) := dw_at cX3_insert_k2 (p := 8) rfl (by decide +kernel)
theorem dcX3_insert_59 : decode cX3_insert 59 = .ok (.iconst 1, 1) := dw_at cX3_insert_k2 (p := 11) rfl (by decide +kernel)
theorem dcX3_insert_60 : decode cX3_insert 60 = .ok (.iadd, 1) := dw_at cX3_insert_k2 (p := 12) rfl (by decide +kernel)
theorem dcX3_insert_61 : decode cX3_insert 61 = .ok (.putfield 37, 3) := dw_at cX3_insert_k2 (p := 13) rfl (by decide +kernel)
theorem dcX3_insert_64 : decode cX3_insert 64 = .ok (.return_, 1) := dw_at cX3_insert_k2 (p := 16) rfl (by decide +kernel)
def cm_X3_insert_0 (vl : Nat → Nat) (K : Nat) (x1 : Int32) (x3 : Int32) (r0 : Nat) (r2 : Nat) (z : ow_MS) : Option ow_MS :=
 rdF z (r0 + 5) fun v1 => (if v1 < (Int32.ofNat (uw_len (cX vl) z (r0 + 4))) then rdF z (r0 + 5) fun v2 => cs0 (ce_X3_write vl K r0 v2 r2 x3 z) fun z3 => rdF z3 (r0 + 5) fun v4 => cpI (cX vl) z3 (r0 + 4) x1 (r0 + 4) (x1 + 1) (v4 - x1) fun z5 => rdF z5 (r0 + 5) fun v6 => ctI (cX vl) z5 (r0 + 4) x1 v6 fun z7 => rdF z7 (r0 + 5) fun v8 => wrF z7 (r0 + 5) (v8 + 1) fun z9 => some z9
 else some z)
def ce_X3_insert (vl : Nat → Nat) (K : Nat) (r0 : Nat) (x1 : Int32) (r2 : Nat) (x3 : Int32) (z : ow_MS) : Option ow_MS := cm_X3_insert_0 vl K x1 x3 r0 r2 z
abbrev wc_X3_insert : List Cond := .code yX3_insert cX3_insert 4 none :: wC
theorem cdd_X3_insert : yX3_insert.cls = RX3 ∧ yX3_insert.cls ≠ "java/lang/invoke/MethodHandle" ∧ yX3_insert.cls ≠ "java/lang/invoke/VarHandle" ∧ (parseMethodDescriptor yX3_insert.desc).map (fun d => d.parameters.length) = some 3 := by decide +kernel
set_option maxHeartbeats 4000000 in
set_option maxRecDepth 100000 in
theorem kc_X3_insert (l : Launch) (D : va_G) (q : Nat → ClassId) (vl u : Nat → Nat) (hU0 : tw_inj (cX vl) u) (K : Nat) (r0 : Nat) (x1 : Int32) (r2 : Nat) (x3 : Int32) (hr0 : cw_X3 r0) (hr2 : cw_X3 r2) (z z1 : ow_MS) (hq : ce_X3_insert vl K r0 x1 r2 x3 z = some z1) : Met l yX3_insert wc_X3_insert ({ frames := 2, cells := 0, slots := 0, locals := 83 } : Room) (va_Pc [.ref (u r0), .int x1, .ref (u r2), .int x3] (cw_pre D q vl u z)) (va_Qv (fun (_ : Unit) => True) (fun _ t => va_P D vwCl (uw (cX vl) q u z1) t.heap) (tw_A (cX vl) u)) 0 0 (tw_A (cX vl) u) := by
  refine Met.ofW (cc := cX3_insert) (maxL := 4) (ret := none) (by decide) rfl ?_
  intro p e s m args below meth c s₁ B hml hv
  obtain ⟨rfl, hP, hK⟩ := hv
  have hx := B.exec
  have hb := B.bytes
  have hr := B.returns
  have hts := atoms_spec (ws := wc_X3_insert) B.pre
  have hT : ∀ w ∈ wC, w.before ([.ref (u r0), .int x1, .ref (u r2), .int x3] : List Value).toArray s = true := fun w h => hts w (List.mem_cons_of_mem _ h)
  have hown : s.vm.findClass RX3 = some m.cls := findClass_of_methodNamed B.named
  have hlocks := B.notSynchronized
  have hU : uw_inj (cX vl) u (tw_A (cX vl) u) := ⟨hU0, fun h hh => ⟨h, hh, rfl⟩⟩
  have hM : uw_M D vwCl (cX vl) q (tw_A (cX vl) u) s.heap u z s.heap [] := ⟨hP, va_S.rf⟩
  have hl := lv_entry ([.ref (u r0), .int x1, .ref (u r2), .int x3]) (n := 4) (Nat.le_of_ble_eq_true rfl)
  rw [lg_entry_eq]
  generalize (lg_sl ([.ref (u r0), .int x1, .ref (u r2), .int x3]) ++ List.replicate (4 - (lg_sl ([.ref (u r0), .int x1, .ref (u r2), .int x3])).length) Slot.unset).toArray = ls at hl ⊢
  have hl : lv_has ls 4 [(0, .ref (u r0)), (1, .int x1), (2, .ref (u r2)), (3, .int x3)] := hl
  refine ow_named (fun QQ hQQ => ?_)
  generalize ([.ref (u r0), .int x1, .ref (u r2), .int x3] : List Value).toArray = args at hts hT hQQ ⊢
  have hq : cm_X3_insert_0 vl K x1 x3 r0 r2 z = some z1 := hq
  unfold cm_X3_insert_0 at hq
  suffices key : ∀ (H : Heap) (locs : List Loc), uw_M D vwCl (cX vl) q (tw_A (cX vl) u) s.heap u z H locs → W p l e ({ frames := 2, cells := 0, slots := 0, locals := 83 } : Room) s m args below meth c H locs 0 0 QQ (F0 m 0 ls []) from key s.heap [] hM
  intro H locs hM
  refine lv_aload_n hx hb dcX3_insert_0 rfl (lv_at hl 0 rfl) ?_
  refine vgX3_37 hx hb hT hown hK hM hr0 hq dcX3_insert_1 (fun v1 hq => ?_)
  refine lv_aload_n hx hb dcX3_insert_4 rfl (lv_at hl 0 rfl) ?_
  refine vgX3_21 hx hb hT hown hK hM hr0 dcX3_insert_5 ?_
  refine uw_alen cX_ok hx hb hK hM (cr_X3_3 hr0) dcX3_insert_8 ?_
  refine lv_icmp_lt (tgt := 13) hx hb dcX3_insert_9 (by decide) (fun hc => ?_) (fun hc => ?_)
  · have hq := tw_it hq hc
    refine lv_aload_n hx hb dcX3_insert_13 rfl (lv_at hl 0 rfl) ?_
    refine lv_aload_n hx hb dcX3_insert_14 rfl (lv_at hl 0 rfl) ?_
    refine vgX3_37 hx hb hT hown hK hM hr0 hq dcX3_insert_15 (fun v2 hq => ?_)
    refine lv_aload_n hx hb dcX3_insert_18 rfl (lv_at hl 2 rfl) ?_
    refine lv_iload_n hx hb dcX3_insert_19 rfl (lv_at hl 3 rfl) ?_
    obtain ⟨z3, hcq, hq⟩ := tw_cl0 hq
    refine uw_calv hU hM (va_runV (As := [.int v2, .ref (u r2), .int x3]) (rest := []) ⟨hx, hb, hml, hown, hts⟩ (kc_X3_write l D q vl u hU.1 K r0 v2 r2 x3 hr0 hr2 z z3 hcq) (cwV 3 hts (tw_gV wC_good xq_330 xq_331 xq_332 xq_313 xq_333) rfl rfl rfl cdd_X3_write ⟨(Nat.le_of_ble_eq_true rfl), (Nat.le_of_ble_eq_true rfl)⟩) (cw_preV hK hM (co_X3 hr0) rfl) rfl rfl hl.1 rfl (lv_room (Nat.le_of_ble_eq_true rfl)) dcX3_insert_20 ⟨(Nat.le_of_ble_eq_true rfl), (Nat.le_of_ble_eq_true rfl)⟩) (fun H locs hM => ?_)
    refine lv_aload_n hx hb dcX3_insert_23 rfl (lv_at hl 0 rfl) ?_
    refine vgX3_21 hx hb hT hown hK hM hr0 dcX3_insert_24 ?_
    refine lv_iload_n hx hb dcX3_insert_27 rfl (lv_at hl 1 rfl) ?_
    refine lv_aload_n hx hb dcX3_insert_28 rfl (lv_at hl 0 rfl) ?_
    refine vgX3_21 hx hb hT hown hK hM hr0 dcX3_insert_29 ?_
    refine lv_iload_n hx hb dcX3_insert_32 rfl (lv_at hl 1 rfl) ?_
    refine lv_iconst (v := 1) hx hb dcX3_insert_33 (by decide) ?_
    refine lv_iadd hx hb dcX3_insert_34 ?_
    refine lv_aload_n hx hb dcX3_insert_35 rfl (lv_at hl 0 rfl) ?_
    refine vgX3_37 hx hb hT hown hK hM hr0 hq dcX3_insert_36 (fun v4 hq => ?_)
    refine lv_iload_n hx hb dcX3_insert_39 rfl (lv_at hl 1 rfl) ?_
    refine lv_isub hx hb dcX3_insert_40 ?_
    refine uw_cpI cX_ok hU hx hb (by rw [hml]; exact hl.1.symm) hown (hT _ xq_329) (hT _ xq_130) (hT _ xq_131) (hT _ xq_132) hK hM (cr_X3_3 hr0) (cr_X3_3 hr0) hq (Nat.le_of_ble_eq_true rfl) (by decide) dcX3_insert_41 (fun z5 H locs hM hq => ?_)
    refine lv_aload_n hx hb dcX3_insert_44 rfl (lv_at hl 0 rfl) ?_
    refine vgX3_21 hx hb hT hown hK hM hr0 dcX3_insert_45 ?_
    refine lv_iload_n hx hb dcX3_insert_48 rfl (lv_at hl 1 rfl) ?_
    refine lv_aload_n hx hb dcX3_insert_49 rfl (lv_at hl 0 rfl) ?_
    refine vgX3_37 hx hb hT hown hK hM hr0 hq dcX3_insert_50 (fun v6 hq => ?_)
    refine uw_iast cX_ok hU hx hb hK hM (cr_X3_3 hr0) hq dcX3_insert_53 (fun z7 H locs hM hq => ?_)
    refine lv_aload_n hx hb dcX3_insert_54 rfl (lv_at hl 0 rfl) ?_
    refine lv_dup hx hb dcX3_insert_55 rfl ?_
    refine vgX3_37 hx hb hT hown hK hM hr0 hq dcX3_insert_56 (fun v8 hq => ?_)
    refine lv_iconst (v := 1) hx hb dcX3_insert_59 (by decide) ?_
    refine lv_iadd hx hb dcX3_insert_60 ?_
    refine vpX3_37 hx hb hT hown hK hM hU hr0 hq dcX3_insert_61 (fun z9 H locs hM hq => ?_)
    exact cw_vret hx hb hr hlocks hM hq hQQ dcX3_insert_64
  · have hq := tw_if hq hc
    exact cw_vret hx hb hr hlocks hM hq hQQ dcX3_insert_12
theorem dcX2_collectParts_0 : decode cX2_collectParts 0 = .ok (.aload_n 1, 1) := dw_at cX2_collectParts_k0 (p := 0) rfl (by decide +kernel)
theorem dcX2_collectParts_1 : decode cX2_collectParts 1 = .ok (.invokevirtual 70, 3) := dw_at cX2_collectParts_k0 (p := 1) rfl (by decide +kernel)
theorem dcX2_collectParts_4 : decode cX2_collectParts 4 = .ok (.aload_n 2, 1) := dw_at cX2_collectParts_k0 (p := 4) rfl (by decide +kernel)
theorem dcX2_collectParts_5 : decode cX2_collectParts 5 = .ok (.iconst 0, 1) := dw_at cX2_collectParts_k0 (p := 5) rfl (by decide +kernel)
theorem dcX2_collectParts_6 : decode cX2_collectParts 6 = .ok (.putfield 41, 3) := dw_at cX2_collectParts_k0 (p := 6) rfl (by decide +kernel)
theorem dcX2_collectParts_9 : decode cX2_collectParts 9 = .ok (.iconst 0, 1) := dw_at cX2_collectParts_k0 (p := 9) rfl (by decide +kernel)
theorem dcX2_collectParts_10 : decode cX2_collectParts 10 = .ok (.istore_n 3, 1) := dw_at cX2_collectParts_k0 (p := 10) rfl (by decide +kernel)
theorem dcX2_collectParts_11 : decode cX2_collectParts 11 = .ok (.iload_n 3, 1) := dw_at cX2_collectParts_k0 (p := 11) rfl (by decide +kernel)
theorem dcX2_collectParts_12 : decode cX2_collectParts 12 = .ok (.aload_n 1, 1) := dw_at cX2_collectParts_k0 (p := 12) rfl (by decide +kernel)
theorem dcX2_collectParts_13 : decode cX2_collectParts 13 = .ok (.getfield 73, 3) := dw_at cX2_collectParts_k0 (p := 13) rfl (by decide +kernel)
theorem dcX2_collectParts_16 : decode cX2_collectParts 16 = .ok (.if_icmp .ge 49, 3) := dw_at cX2_collectParts_k0 (p := 16) rfl (by decide +kernel)
theorem dcX2_collectParts_19 : decode cX2_collectParts 19 = .ok (.aload_n 0, 1) := dw_at cX2_collectParts_k0 (p := 19) rfl (by decide +kernel)
theorem dcX2_collectParts_20 : decode cX2_collectParts 20 = .ok (.aload_n 1, 1) := dw_at cX2_collectParts_k0 (p := 20) rfl (by decide +kernel)
theorem dcX2_collectParts_21 : decode cX2_collectParts 21 = .ok (.iload_n 3, 1) := dw_at cX2_collectParts_k0 (p := 21) rfl (by decide +kernel)
theorem dcX2_collectParts_22 : decode cX2_collectParts 22 = .ok (.invokevirtual 76, 3) := dw_at cX2_collectParts_k0 (p := 22) rfl (by decide +kernel)
theorem dcX2_collectParts_25 : decode cX2_collectParts 25 = .ok (.aload_n 2, 1) := dw_at cX2_collectParts_k1 (p := 0) rfl (by decide +kernel)
theorem dcX2_collectParts_26 : decode cX2_collectParts 26 = .ok (.aload_n 0, 1) := dw_at cX2_collectParts_k1 (p := 1) rfl (by decide +kernel)
theorem dcX2_collectParts_27 : decode cX2_collectParts 27 = .ok (.getfield 20, 3) := dw_at cX2_collectParts_k1 (p := 2) rfl (by decide +kernel)
theorem dcX2_collectParts_30 : decode cX2_collectParts 30 = .ok (.iconst 0, 1) := dw_at cX2_collectParts_k1 (p := 5) rfl (by decide +kernel)
theorem dcX2_collectParts_31 : decode cX2_collectParts 31 = .ok (.invokevirtual 80, 3) := dw_at cX2_collectParts_k1 (p := 6) rfl (by decide +kernel)
theorem dcX2_collectParts_34 : decode cX2_collectParts 34 = .ok (.istore 4, 2) := dw_at cX2_collectParts_k1 (p := 9) rfl (by decide +kernel)
theorem dcX2_collectParts_36 : decode cX2_collectParts 36 = .ok (.aload_n 2, 1) := dw_at cX2_collectParts_k1 (p := 11) rfl (by decide +kernel)
theorem dcX2_collectParts_37 : decode cX2_collectParts 37 = .ok (.iload 4, 2) := dw_at cX2_collectParts_k1 (p := 12) rfl (by decide +kernel)
theorem dcX2_collectParts_39 : decode cX2_collectParts 39 = .ok (.ifCond .ge 10, 3) := dw_at cX2_collectParts_k1 (p := 14) rfl (by decide +kernel)
theorem dcX2_collectParts_42 : decode cX2_collectParts 42 = .ok (.iconst (-1), 1) := dw_at cX2_collectParts_k1 (p := 17) rfl (by decide +kernel)
theorem dcX2_collectParts_43 : decode cX2_collectParts 43 = .ok (.iload 4, 2) := dw_at cX2_collectParts_k1 (p := 18) rfl (by decide +kernel)
theorem dcX2_collectParts_45 : decode cX2_collectParts 45 = .ok (.isub, 1) := dw_at cX2_collectParts_k1 (p := 20) rfl (by decide +kernel)
theorem dcX2_collectParts_46 : decode cX2_collectParts 46 = .ok (.goto 5, 3) := dw_at cX2_collectParts_k1 (p := 21) rfl (by decide +kernel)
theorem dcX2_collectParts_49 : decode cX2_collectParts 49 = .ok (.iload 4, 2) := dw_at cX2_collectParts_k2 (p := 0) rfl (by decide +kernel)
theorem dcX2_collectParts_51 : decode cX2_collectParts 51 = .ok (.aload_n 0, 1) := dw_at cX2_collectParts_k2 (p := 2) rfl (by decide +kernel)
theorem dcX2_collectParts_52 : decode cX2_collectParts 52 = .ok (.getfield 20, 3) := dw_at cX2_collectParts_k2 (p := 3) rfl (by decide +kernel)
theorem dcX2_collectParts_55 : decode cX2_collectParts 55 = .ok (.iconst 0, 1) := dw_at cX2_collectParts_k2 (p := 6) rfl (by decide +kernel)
theorem dcX2_collectParts_56 : decode cX2_collectParts 56 = .ok (.invokevirtual 84, 3) := dw_at cX2_collectParts_k2 (p := 7) rfl (by decide +kernel)
theorem dcX2_collectParts_59 : decode cX2_collectParts 59 = .ok (.iinc 3 1, 3) := dw_at cX2_collectParts_k2 (p := 10) rfl (by decide +kernel)
theorem dcX2_collectParts_62 : decode cX2_collectParts 62 = .ok (.goto (-51), 3) := dw_at cX2_collectParts_k2 (p := 13) rfl (by decide +kernel)
theorem dcX2_collectParts_65 : decode cX2_collectParts 65 = .ok (.return_, 1) := dw_at cX2_collectParts_k2 (p := 16) rfl (by decide +kernel)
def cm_X2_collectParts_0 (vl : Nat → Nat) (K : Nat) (go : Nat → Int32 → Int32 → Nat → Nat → Nat → Int32 → ow_MS → Option ow_MS) (x3 : Int32) (x4 : Int32) (r0 : Nat) (r1 : Nat) (r2 : Nat) (t0 : Int32) (z : ow_MS) : Option ow_MS :=
 cs0 (ce_X7_markParts vl K r1 z) fun z1 => wrF z1 (r2 + 5) 0 fun z2 => go 1 0 0 r0 r1 r2 0 z2
def cm_X2_collectParts_1 (vl : Nat → Nat) (K : Nat) (go : Nat → Int32 → Int32 → Nat → Nat → Nat → Int32 → ow_MS → Option ow_MS) (x3 : Int32) (x4 : Int32) (r0 : Nat) (r1 : Nat) (r2 : Nat) (t0 : Int32) (z : ow_MS) : Option ow_MS :=
 rdF z (r1 + 11) fun v3 => (if v3 ≤ x3 then some z
 else cs0 (ce_X2_encodePart vl K r0 r1 x3 z) fun z4 => cs1 (ce_X3_find vl K r2 (r0 + 2000) 0 z4) fun v6 z5 => (if 0 ≤ v6 then go 2 x3 v6 r0 r1 r2 v6 z5
 else go 2 x3 v6 r0 r1 r2 ((-1) - v6) z5))
def cm_X2_collectParts_2 (vl : Nat → Nat) (K : Nat) (go : Nat → Int32 → Int32 → Nat → Nat → Nat → Int32 → ow_MS → Option ow_MS) (x3 : Int32) (x4 : Int32) (r0 : Nat) (r1 : Nat) (r2 : Nat) (t0 : Int32) (z : ow_MS) : Option ow_MS :=
 cs0 (ce_X3_insert vl K r2 t0 (r0 + 2000) 0 z) fun z7 => go 1 (x3 + 1) 0 r0 r1 r2 0 z7
def cb_X2_collectParts (vl : Nat → Nat) (K : Nat) (go : Nat → Int32 → Int32 → Nat → Nat → Nat → Int32 → ow_MS → Option ow_MS) (L : Nat) (x3 : Int32) (x4 : Int32) (r0 : Nat) (r1 : Nat) (r2 : Nat) (t0 : Int32) (z : ow_MS) : Option ow_MS := match L with
  | 0 => cm_X2_collectParts_0 vl K go x3 x4 r0 r1 r2 t0 z
  | 1 => cm_X2_collectParts_1 vl K go x3 x4 r0 r1 r2 t0 z
  | 2 => cm_X2_collectParts_2 vl K go x3 x4 r0 r1 r2 t0 z
  | _ => none
def c_X2_collectParts (vl : Nat → Nat) (K : Nat) : Nat → Nat → Int32 → Int32 → Nat → Nat → Nat → Int32 → ow_MS → Option ow_MS
  | 0 => fun _ _ _ _ _ _ _ _ => none
  | k + 1 => cb_X2_collectParts vl K (c_X2_collectParts vl K k)
def ce_X2_collectParts (vl : Nat → Nat) (K : Nat) (r0 : Nat) (r1 : Nat) (r2 : Nat) (z : ow_MS) : Option ow_MS := c_X2_collectParts vl K K 0 0 0 r0 r1 r2 0 z
abbrev wc_X2_collectParts : List Cond := .code yX2_collectParts cX2_collectParts 5 none :: wC
theorem cdd_X2_collectParts : yX2_collectParts.cls = RX2 ∧ yX2_collectParts.cls ≠ "java/lang/invoke/MethodHandle" ∧ yX2_collectParts.cls ≠ "java/lang/invoke/VarHandle" ∧ (parseMethodDescriptor yX2_collectParts.desc).map (fun d => d.parameters.length) = some 2 := by decide +kernel
set_option maxHeartbeats 4000000 in
set_option maxRecDepth 100000 in
theorem kc_X2_collectParts (l : Launch) (D : va_G) (q : Nat → ClassId) (vl u : Nat → Nat) (hU0 : tw_inj (cX vl) u) (K : Nat) (r0 : Nat) (r1 : Nat) (r2 : Nat) (hr0 : cw_X2 r0) (hr1 : cw_X7 r1) (hr2 : cw_X3 r2) (z z1 : ow_MS) (hq : ce_X2_collectParts vl K r0 r1 r2 z = some z1) : Met l yX2_collectParts wc_X2_collectParts ({ frames := 3, cells := 0, slots := 0, locals := 106 } : Room) (va_Pc [.ref (u r0), .ref (u r1), .ref (u r2)] (cw_pre D q vl u z)) (va_Qv (fun (_ : Unit) => True) (fun _ t => va_P D vwCl (uw (cX vl) q u z1) t.heap) (tw_A (cX vl) u)) 0 0 (tw_A (cX vl) u) := by
  refine Met.ofW (cc := cX2_collectParts) (maxL := 5) (ret := none) (by decide) rfl ?_
  intro p e s m args below meth c s₁ B hml hv
  obtain ⟨rfl, hP, hK⟩ := hv
  have hx := B.exec
  have hb := B.bytes
  have hr := B.returns
  have hts := atoms_spec (ws := wc_X2_collectParts) B.pre
  have hT : ∀ w ∈ wC, w.before ([.ref (u r0), .ref (u r1), .ref (u r2)] : List Value).toArray s = true := fun w h => hts w (List.mem_cons_of_mem _ h)
  have hown : s.vm.findClass RX2 = some m.cls := findClass_of_methodNamed B.named
  have hlocks := B.notSynchronized
  have hU : uw_inj (cX vl) u (tw_A (cX vl) u) := ⟨hU0, fun h hh => ⟨h, hh, rfl⟩⟩
  have hM : uw_M D vwCl (cX vl) q (tw_A (cX vl) u) s.heap u z s.heap [] := ⟨hP, va_S.rf⟩
  have hl := lv_entry ([.ref (u r0), .ref (u r1), .ref (u r2)]) (n := 5) (Nat.le_of_ble_eq_true rfl)
  rw [lg_entry_eq]
  generalize (lg_sl ([.ref (u r0), .ref (u r1), .ref (u r2)]) ++ List.replicate (5 - (lg_sl ([.ref (u r0), .ref (u r1), .ref (u r2)])).length) Slot.unset).toArray = ls at hl ⊢
  have hl : lv_has ls 5 [(0, .ref (u r0)), (1, .ref (u r1)), (2, .ref (u r2))] := hl
  refine ow_named (fun QQ hQQ => ?_)
  generalize ([.ref (u r0), .ref (u r1), .ref (u r2)] : List Value).toArray = args at hts hT hQQ ⊢
  have key : ∀ k : Nat, (∀ (x3 : Int32) (x4 : Int32) (r0 : Nat) (r1 : Nat) (r2 : Nat) (t0 : Int32) (z : ow_MS) (H : Heap) (locs : List Loc) (ls : Array Slot), cw_X2 r0 → cw_X7 r1 → cw_X3 r2 → uw_M D vwCl (cX vl) q (tw_A (cX vl) u) s.heap u z H locs → lv_has ls 5 [(0, .ref (u r0)), (1, .ref (u r1)), (2, .ref (u r2))] → c_X2_collectParts vl K k 0 x3 x4 r0 r1 r2 t0 z = some z1 → W p l e ({ frames := 3, cells := 0, slots := 0, locals := 106 } : Room) s m args below meth c H locs 0 0 QQ (F0 m 0 ls [])) ∧ (∀ (x3 : Int32) (x4 : Int32) (r0 : Nat) (r1 : Nat) (r2 : Nat) (t0 : Int32) (z : ow_MS) (H : Heap) (locs : List Loc) (ls : Array Slot), cw_X2 r0 → cw_X7 r1 → cw_X3 r2 → uw_M D vwCl (cX vl) q (tw_A (cX vl) u) s.heap u z H locs → lv_has ls 5 [(0, .ref (u r0)), (1, .ref (u r1)), (2, .ref (u r2)), (3, .int x3)] → c_X2_collectParts vl K k 1 x3 x4 r0 r1 r2 t0 z = some z1 → W p l e ({ frames := 3, cells := 0, slots := 0, locals := 106 } : Room) s m args below meth c H locs 0 0 QQ (F0 m 11 ls [])) ∧ (∀ (x3 : Int32) (x4 : Int32) (r0 : Nat) (r1 : Nat) (r2 : Nat) (t0 : Int32) (z : ow_MS) (H : Heap) (locs : List Loc) (ls : Array Slot), cw_X2 r0 → cw_X7 r1 → cw_X3 r2 → uw_M D vwCl (cX vl) q (tw_A (cX vl) u) s.heap u z H locs → lv_has ls 5 [(0, .ref (u r0)), (1, .ref (u r1)), (2, .ref (u r2)), (3, .int x3), (4, .int x4)] → c_X2_collectParts vl K k 2 x3 x4 r0 r1 r2 t0 z = some z1 → W p l e ({ frames := 3, cells := 0, slots := 0, locals := 106 } : Room) s m args below meth c H locs 0 0 QQ (F0 m 51 ls [.int t0, .ref (u r2)])) := by
    intro k
    induction k with
    | zero => exact ⟨fun _ _ _ _ _ _ _ _ _ _ _ _ _ _ _ hq => cw_no hq, fun _ _ _ _ _ _ _ _ _ _ _ _ _ _ _ hq => cw_no hq, fun _ _ _ _ _ _ _ _ _ _ _ _ _ _ _ hq => cw_no hq⟩
    | succ k ih =>
      obtain ⟨ih_0, ih_1, ih_2⟩ := ih
      refine ⟨?_, ?_, ?_⟩
      · intro x3 x4 r0 r1 r2 t0 z H locs ls hr0 hr1 hr2 hM hl hq
        have hq : cm_X2_collectParts_0 vl K (c_X2_collectParts vl K k) x3 x4 r0 r1 r2 t0 z = some z1 := hq
        unfold cm_X2_collectParts_0 at hq
        refine lv_aload_n hx hb dcX2_collectParts_0 rfl (lv_at hl 1 rfl) ?_
        obtain ⟨z1, hcq, hq⟩ := tw_cl0 hq
        refine uw_calv hU hM (va_runV (As := []) (rest := []) ⟨hx, hb, hml, hown, hts⟩ (kc_X7_markParts l D q vl u hU.1 K r1 hr1 z z1 hcq) (cwV 0 hts (tw_gV wC_good xq_287 xq_52 xq_53 xq_54 xq_55) rfl rfl rfl cdd_X7_markParts ⟨(Nat.le_of_ble_eq_true rfl), (Nat.le_of_ble_eq_true rfl)⟩) (cw_preV hK hM (co_X7 hr1) rfl) rfl rfl hl.1 rfl (lv_room (Nat.le_of_ble_eq_true rfl)) dcX2_collectParts_1 ⟨(Nat.le_of_ble_eq_true rfl), (Nat.le_of_ble_eq_true rfl)⟩) (fun H locs hM => ?_)
        refine lv_aload_n hx hb dcX2_collectParts_4 rfl (lv_at hl 2 rfl) ?_
        refine lv_iconst (v := 0) hx hb dcX2_collectParts_5 (by decide) ?_
        refine vpX2_41 hx hb hT hown hK hM hU hr2 hq dcX2_collectParts_6 (fun z2 H locs hM hq => ?_)
        refine lv_iconst (v := 0) hx hb dcX2_collectParts_9 (by decide) ?_
        refine lv_istore_n (lv' := [(3, .int 0), (0, .ref (u r0)), (1, .ref (u r1)), (2, .ref (u r2))]) hx hb dcX2_collectParts_10 rfl hl (by decide) rfl (fun ls hl => ?_)
        exact ih_1 0 0 r0 r1 r2 0 z2 H locs ls hr0 hr1 hr2 hM (lv_sub hl [1, 2, 3, 0] rfl) hq
      · intro x3 x4 r0 r1 r2 t0 z H locs ls hr0 hr1 hr2 hM hl hq
        have hq : cm_X2_collectParts_1 vl K (c_X2_collectParts vl K k) x3 x4 r0 r1 r2 t0 z = some z1 := hq
        unfold cm_X2_collectParts_1 at hq
        refine lv_iload_n hx hb dcX2_collectParts_11 rfl (lv_at hl 3 rfl) ?_
        refine lv_aload_n hx hb dcX2_collectParts_12 rfl (lv_at hl 1 rfl) ?_
        refine vgX2_73 hx hb hT hown hK hM hr1 hq dcX2_collectParts_13 (fun v3 hq => ?_)
        refine lv_icmp_ge (tgt := 65) hx hb dcX2_collectParts_16 (by decide) (fun hc => ?_) (fun hc => ?_)
        · have hq := tw_it hq hc
          exact cw_vret hx hb hr hlocks hM hq hQQ dcX2_collectParts_65
        · have hq := tw_if hq hc
          refine lv_aload_n hx hb dcX2_collectParts_19 rfl (lv_at hl 0 rfl) ?_
          refine lv_aload_n hx hb dcX2_collectParts_20 rfl (lv_at hl 1 rfl) ?_
          refine lv_iload_n hx hb dcX2_collectParts_21 rfl (lv_at hl 3 rfl) ?_
          obtain ⟨z4, hcq, hq⟩ := tw_cl0 hq
          refine uw_calv hU hM (va_runV (As := [.ref (u r1), .int x3]) (rest := []) ⟨hx, hb, hml, hown, hts⟩ (kc_X2_encodePart l D q vl u hU.1 K r0 r1 x3 hr0 hr1 z z4 hcq) (cwV 2 hts (tw_gV wC_good xq_288 xq_289 xq_290 xq_283 xq_291) rfl rfl rfl cdd_X2_encodePart ⟨(Nat.le_of_ble_eq_true rfl), (Nat.le_of_ble_eq_true rfl)⟩) (cw_preV hK hM (co_X2 hr0) rfl) rfl rfl hl.1 rfl (lv_room (Nat.le_of_ble_eq_true rfl)) dcX2_collectParts_22 ⟨(Nat.le_of_ble_eq_true rfl), (Nat.le_of_ble_eq_true rfl)⟩) (fun H locs hM => ?_)
          refine lv_aload_n hx hb dcX2_collectParts_25 rfl (lv_at hl 2 rfl) ?_
          refine lv_aload_n hx hb dcX2_collectParts_26 rfl (lv_at hl 0 rfl) ?_
          refine vgX2_20 hx hb hT hown hK hM hr0 dcX2_collectParts_27 ?_
          refine lv_iconst (v := 0) hx hb dcX2_collectParts_30 (by decide) ?_
          obtain ⟨v6, z5, hcq, hq⟩ := tw_cl1 hq
          refine uw_cali hU hM (va_runV (As := [.ref (u (r0 + 2000)), .int 0]) (rest := []) ⟨hx, hb, hml, hown, hts⟩ (kc_X3_find l D q vl u hU.1 K r2 (r0 + 2000) 0 hr2 (cs_X2_1 hr0) z4 z5 v6 hcq) (cwV 2 hts (tw_gV wC_good xq_310 xq_311 xq_312 xq_313 xq_314) rfl rfl rfl cdd_X3_find ⟨(Nat.le_of_ble_eq_true rfl), (Nat.le_of_ble_eq_true rfl)⟩) (cw_preV hK hM (co_X3 hr2) rfl) rfl rfl hl.1 rfl (lv_room (Nat.le_of_ble_eq_true rfl)) dcX2_collectParts_31 ⟨(Nat.le_of_ble_eq_true rfl), (Nat.le_of_ble_eq_true rfl)⟩) (fun H locs hM => ?_)
          refine lv_istore (lv' := [(4, .int v6), (0, .ref (u r0)), (1, .ref (u r1)), (2, .ref (u r2)), (3, .int x3)]) hx hb dcX2_collectParts_34 hl (by decide) rfl (fun ls hl => ?_)
          refine lv_aload_n hx hb dcX2_collectParts_36 rfl (lv_at hl 3 rfl) ?_
          refine lv_iload hx hb dcX2_collectParts_37 (lv_at hl 0 rfl) ?_
          refine lv_if_ge (tgt := 49) hx hb dcX2_collectParts_39 (by decide) (fun hc => ?_) (fun hc => ?_)
          · have hq := tw_it hq hc
            refine lv_iload hx hb dcX2_collectParts_49 (lv_at hl 0 rfl) ?_
            exact ih_2 x3 v6 r0 r1 r2 v6 z5 H locs ls hr0 hr1 hr2 hM (lv_sub hl [1, 2, 3, 4, 0] rfl) hq
          · have hq := tw_if hq hc
            refine lv_iconst (v := (-1)) hx hb dcX2_collectParts_42 (by decide) ?_
            refine lv_iload hx hb dcX2_collectParts_43 (lv_at hl 0 rfl) ?_
            refine lv_isub hx hb dcX2_collectParts_45 ?_
            refine lv_goto (tgt := 51) hx hb dcX2_collectParts_46 (by decide) ?_
            exact ih_2 x3 v6 r0 r1 r2 ((-1) - v6) z5 H locs ls hr0 hr1 hr2 hM (lv_sub hl [1, 2, 3, 4, 0] rfl) hq
      · intro x3 x4 r0 r1 r2 t0 z H locs ls hr0 hr1 hr2 hM hl hq
        have hq : cm_X2_collectParts_2 vl K (c_X2_collectParts vl K k) x3 x4 r0 r1 r2 t0 z = some z1 := hq
        unfold cm_X2_collectParts_2 at hq
        refine lv_aload_n hx hb dcX2_collectParts_51 rfl (lv_at hl 0 rfl) ?_
        refine vgX2_20 hx hb hT hown hK hM hr0 dcX2_collectParts_52 ?_
        refine lv_iconst (v := 0) hx hb dcX2_collectParts_55 (by decide) ?_
        obtain ⟨z7, hcq, hq⟩ := tw_cl0 hq
        refine uw_calv hU hM (va_runV (As := [.int t0, .ref (u (r0 + 2000)), .int 0]) (rest := []) ⟨hx, hb, hml, hown, hts⟩ (kc_X3_insert l D q vl u hU.1 K r2 t0 (r0 + 2000) 0 hr2 (cs_X2_1 hr0) z z7 hcq) (cwV 3 hts (tw_gV wC_good xq_325 xq_326 xq_327 xq_313 xq_328) rfl rfl rfl cdd_X3_insert ⟨(Nat.le_of_ble_eq_true rfl), (Nat.le_of_ble_eq_true rfl)⟩) (cw_preV hK hM (co_X3 hr2) rfl) rfl rfl hl.1 rfl (lv_room (Nat.le_of_ble_eq_true rfl)) dcX2_collectParts_56 ⟨(Nat.le_of_ble_eq_true rfl), (Nat.le_of_ble_eq_true rfl)⟩) (fun H locs hM => ?_)
        refine lv_iinc (v := (x3 + 1)) (lv' := [(3, .int (x3 + 1)), (0, .ref (u r0)), (1, .ref (u r1)), (2, .ref (u r2)), (4, .int x4)]) hx hb dcX2_collectParts_59 hl (k := 3) rfl rfl (by decide) rfl (fun ls hl => ?_)
        refine lv_goto (tgt := 11) hx hb dcX2_collectParts_62 (by decide) ?_
        exact ih_1 (x3 + 1) 0 r0 r1 r2 0 z7 H locs ls hr0 hr1 hr2 hM (lv_sub hl [1, 2, 3, 0] rfl) hq
  exact (key K).1 0 0 r0 r1 r2 0 z s.heap [] ls hr0 hr1 hr2 hM (lv_sub hl [0, 1, 2] rfl) hq
theorem dcX2_encode_0 : decode cX2_encode 0 = .ok (.aload_n 0, 1) := dw_at cX2_encode_k0 (p := 0) rfl (by decide +kernel)
theorem dcX2_encode_1 : decode cX2_encode 1 = .ok (.aload_n 1, 1) := dw_at cX2_encode_k0 (p := 1) rfl (by decide +kernel)
theorem dcX2_encode_2 : decode cX2_encode 2 = .ok (.aload_n 0, 1) := dw_at cX2_encode_k0 (p := 2) rfl (by decide +kernel)
theorem dcX2_encode_3 : decode cX2_encode 3 = .ok (.getfield 23, 3) := dw_at cX2_encode_k0 (p := 3) rfl (by decide +kernel)
theorem dcX2_encode_6 : decode cX2_encode 6 = .ok (.invokevirtual 37, 3) := dw_at cX2_encode_k0 (p := 6) rfl (by decide +kernel)
theorem dcX2_encode_9 : decode cX2_encode 9 = .ok (.iconst 0, 1) := dw_at cX2_encode_k0 (p := 9) rfl (by decide +kernel)
theorem dcX2_encode_10 : decode cX2_encode 10 = .ok (.istore_n 2, 1) := dw_at cX2_encode_k0 (p := 10) rfl (by decide +kernel)
theorem dcX2_encode_11 : decode cX2_encode 11 = .ok (.iconst 0, 1) := dw_at cX2_encode_k0 (p := 11) rfl (by decide +kernel)
theorem dcX2_encode_12 : decode cX2_encode 12 = .ok (.istore_n 3, 1) := dw_at cX2_encode_k0 (p := 12) rfl (by decide +kernel)
theorem dcX2_encode_13 : decode cX2_encode 13 = .ok (.iload_n 3, 1) := dw_at cX2_encode_k0 (p := 13) rfl (by decide +kernel)
theorem dcX2_encode_14 : decode cX2_encode 14 = .ok (.aload_n 0, 1) := dw_at cX2_encode_k0 (p := 14) rfl (by decide +kernel)
theorem dcX2_encode_15 : decode cX2_encode 15 = .ok (.getfield 23, 3) := dw_at cX2_encode_k0 (p := 15) rfl (by decide +kernel)
theorem dcX2_encode_18 : decode cX2_encode 18 = .ok (.getfield 41, 3) := dw_at cX2_encode_k0 (p := 18) rfl (by decide +kernel)
theorem dcX2_encode_21 : decode cX2_encode 21 = .ok (.if_icmp .ge 71, 3) := dw_at cX2_encode_k0 (p := 21) rfl (by decide +kernel)
theorem dcX2_encode_24 : decode cX2_encode 24 = .ok (.aload_n 0, 1) := dw_at cX2_encode_k1 (p := 0) rfl (by decide +kernel)
theorem dcX2_encode_25 : decode cX2_encode 25 = .ok (.getfield 23, 3) := dw_at cX2_encode_k1 (p := 1) rfl (by decide +kernel)
theorem dcX2_encode_28 : decode cX2_encode 28 = .ok (.getfield 45, 3) := dw_at cX2_encode_k1 (p := 4) rfl (by decide +kernel)
theorem dcX2_encode_31 : decode cX2_encode 31 = .ok (.iload_n 3, 1) := dw_at cX2_encode_k1 (p := 7) rfl (by decide +kernel)
theorem dcX2_encode_32 : decode cX2_encode 32 = .ok (.iaload, 1) := dw_at cX2_encode_k1 (p := 8) rfl (by decide +kernel)
theorem dcX2_encode_33 : decode cX2_encode 33 = .ok (.istore 4, 2) := dw_at cX2_encode_k1 (p := 9) rfl (by decide +kernel)
theorem dcX2_encode_35 : decode cX2_encode 35 = .ok (.aload_n 0, 1) := dw_at cX2_encode_k1 (p := 11) rfl (by decide +kernel)
theorem dcX2_encode_36 : decode cX2_encode 36 = .ok (.getfield 23, 3) := dw_at cX2_encode_k1 (p := 12) rfl (by decide +kernel)
theorem dcX2_encode_39 : decode cX2_encode 39 = .ok (.getfield 48, 3) := dw_at cX2_encode_k1 (p := 15) rfl (by decide +kernel)
theorem dcX2_encode_42 : decode cX2_encode 42 = .ok (.iload 4, 2) := dw_at cX2_encode_k1 (p := 18) rfl (by decide +kernel)
theorem dcX2_encode_44 : decode cX2_encode 44 = .ok (.baload, 1) := dw_at cX2_encode_k1 (p := 20) rfl (by decide +kernel)
theorem dcX2_encode_45 : decode cX2_encode 45 = .ok (.istore 5, 2) := dw_at cX2_encode_k1 (p := 21) rfl (by decide +kernel)
theorem dcX2_encode_47 : decode cX2_encode 47 = .ok (.iload_n 2, 1) := dw_at cX2_encode_k1 (p := 23) rfl (by decide +kernel)
theorem dcX2_encode_48 : decode cX2_encode 48 = .ok (.iload 5, 2) := dw_at cX2_encode_k2 (p := 0) rfl (by decide +kernel)
theorem dcX2_encode_50 : decode cX2_encode 50 = .ok (.iadd, 1) := dw_at cX2_encode_k2 (p := 2) rfl (by decide +kernel)
theorem dcX2_encode_51 : decode cX2_encode 51 = .ok (.bipush 30, 2) := dw_at cX2_encode_k2 (p := 3) rfl (by decide +kernel)
theorem dcX2_encode_53 : decode cX2_encode 53 = .ok (.if_icmp .gt 33, 3) := dw_at cX2_encode_k2 (p := 5) rfl (by decide +kernel)
theorem dcX2_encode_56 : decode cX2_encode 56 = .ok (.aload_n 0, 1) := dw_at cX2_encode_k2 (p := 8) rfl (by decide +kernel)
theorem dcX2_encode_57 : decode cX2_encode 57 = .ok (.getfield 23, 3) := dw_at cX2_encode_k2 (p := 9) rfl (by decide +kernel)
theorem dcX2_encode_60 : decode cX2_encode 60 = .ok (.getfield 51, 3) := dw_at cX2_encode_k2 (p := 12) rfl (by decide +kernel)
theorem dcX2_encode_63 : decode cX2_encode 63 = .ok (.iload 4, 2) := dw_at cX2_encode_k2 (p := 15) rfl (by decide +kernel)
theorem dcX2_encode_65 : decode cX2_encode 65 = .ok (.bipush 30, 2) := dw_at cX2_encode_k2 (p := 17) rfl (by decide +kernel)
theorem dcX2_encode_67 : decode cX2_encode 67 = .ok (.imul, 1) := dw_at cX2_encode_k2 (p := 19) rfl (by decide +kernel)
theorem dcX2_encode_68 : decode cX2_encode 68 = .ok (.aload_n 0, 1) := dw_at cX2_encode_k2 (p := 20) rfl (by decide +kernel)
theorem dcX2_encode_69 : decode cX2_encode 69 = .ok (.getfield 14, 3) := dw_at cX2_encode_k2 (p := 21) rfl (by decide +kernel)
theorem dcX2_encode_72 : decode cX2_encode 72 = .ok (.getfield 51, 3) := dw_at cX2_encode_k3 (p := 0) rfl (by decide +kernel)
theorem dcX2_encode_75 : decode cX2_encode 75 = .ok (.iload_n 2, 1) := dw_at cX2_encode_k3 (p := 3) rfl (by decide +kernel)
theorem dcX2_encode_76 : decode cX2_encode 76 = .ok (.iload 5, 2) := dw_at cX2_encode_k3 (p := 4) rfl (by decide +kernel)
theorem dcX2_encode_78 : decode cX2_encode 78 = .ok (.invokestatic 54, 3) := dw_at cX2_encode_k3 (p := 6) rfl (by decide +kernel)
theorem dcX2_encode_81 : decode cX2_encode 81 = .ok (.iload_n 2, 1) := dw_at cX2_encode_k3 (p := 9) rfl (by decide +kernel)
theorem dcX2_encode_82 : decode cX2_encode 82 = .ok (.iload 5, 2) := dw_at cX2_encode_k3 (p := 10) rfl (by decide +kernel)
theorem dcX2_encode_84 : decode cX2_encode 84 = .ok (.iadd, 1) := dw_at cX2_encode_k3 (p := 12) rfl (by decide +kernel)
theorem dcX2_encode_85 : decode cX2_encode 85 = .ok (.istore_n 2, 1) := dw_at cX2_encode_k3 (p := 13) rfl (by decide +kernel)
theorem dcX2_encode_86 : decode cX2_encode 86 = .ok (.iinc 3 1, 3) := dw_at cX2_encode_k3 (p := 14) rfl (by decide +kernel)
theorem dcX2_encode_89 : decode cX2_encode 89 = .ok (.goto (-76), 3) := dw_at cX2_encode_k3 (p := 17) rfl (by decide +kernel)
theorem dcX2_encode_92 : decode cX2_encode 92 = .ok (.iconst 0, 1) := dw_at cX2_encode_k3 (p := 20) rfl (by decide +kernel)
theorem dcX2_encode_93 : decode cX2_encode 93 = .ok (.istore_n 3, 1) := dw_at cX2_encode_k3 (p := 21) rfl (by decide +kernel)
theorem dcX2_encode_94 : decode cX2_encode 94 = .ok (.iload_n 3, 1) := dw_at cX2_encode_k3 (p := 22) rfl (by decide +kernel)
theorem dcX2_encode_95 : decode cX2_encode 95 = .ok (.aload_n 1, 1) := dw_at cX2_encode_k3 (p := 23) rfl (by decide +kernel)
theorem dcX2_encode_96 : decode cX2_encode 96 = .ok (.getfield 60, 3) := dw_at cX2_encode_k4 (p := 0) rfl (by decide +kernel)
theorem dcX2_encode_99 : decode cX2_encode 99 = .ok (.if_icmp .ge 28, 3) := dw_at cX2_encode_k4 (p := 3) rfl (by decide +kernel)
theorem dcX2_encode_102 : decode cX2_encode 102 = .ok (.iload_n 2, 1) := dw_at cX2_encode_k4 (p := 6) rfl (by decide +kernel)
theorem dcX2_encode_103 : decode cX2_encode 103 = .ok (.bipush 30, 2) := dw_at cX2_encode_k4 (p := 7) rfl (by decide +kernel)
theorem dcX2_encode_105 : decode cX2_encode 105 = .ok (.if_icmp .ge 22, 3) := dw_at cX2_encode_k4 (p := 9) rfl (by decide +kernel)
theorem dcX2_encode_108 : decode cX2_encode 108 = .ok (.aload_n 0, 1) := dw_at cX2_encode_k4 (p := 12) rfl (by decide +kernel)
theorem dcX2_encode_109 : decode cX2_encode 109 = .ok (.getfield 14, 3) := dw_at cX2_encode_k4 (p := 13) rfl (by decide +kernel)
theorem dcX2_encode_112 : decode cX2_encode 112 = .ok (.getfield 51, 3) := dw_at cX2_encode_k4 (p := 16) rfl (by decide +kernel)
theorem dcX2_encode_115 : decode cX2_encode 115 = .ok (.iload_n 2, 1) := dw_at cX2_encode_k4 (p := 19) rfl (by decide +kernel)
theorem dcX2_encode_116 : decode cX2_encode 116 = .ok (.iconst 0, 1) := dw_at cX2_encode_k4 (p := 20) rfl (by decide +kernel)
theorem dcX2_encode_117 : decode cX2_encode 117 = .ok (.bastore, 1) := dw_at cX2_encode_k4 (p := 21) rfl (by decide +kernel)
theorem dcX2_encode_118 : decode cX2_encode 118 = .ok (.iinc 2 1, 3) := dw_at cX2_encode_k4 (p := 22) rfl (by decide +kernel)
theorem dcX2_encode_121 : decode cX2_encode 121 = .ok (.iinc 3 1, 3) := dw_at cX2_encode_k5 (p := 0) rfl (by decide +kernel)
theorem dcX2_encode_124 : decode cX2_encode 124 = .ok (.goto (-30), 3) := dw_at cX2_encode_k5 (p := 3) rfl (by decide +kernel)
theorem dcX2_encode_127 : decode cX2_encode 127 = .ok (.aload_n 0, 1) := dw_at cX2_encode_k5 (p := 6) rfl (by decide +kernel)
theorem dcX2_encode_128 : decode cX2_encode 128 = .ok (.getfield 14, 3) := dw_at cX2_encode_k5 (p := 7) rfl (by decide +kernel)
theorem dcX2_encode_131 : decode cX2_encode 131 = .ok (.getfield 48, 3) := dw_at cX2_encode_k5 (p := 10) rfl (by decide +kernel)
theorem dcX2_encode_134 : decode cX2_encode 134 = .ok (.iconst 0, 1) := dw_at cX2_encode_k5 (p := 13) rfl (by decide +kernel)
theorem dcX2_encode_135 : decode cX2_encode 135 = .ok (.iload_n 2, 1) := dw_at cX2_encode_k5 (p := 14) rfl (by decide +kernel)
theorem dcX2_encode_136 : decode cX2_encode 136 = .ok (.i2b, 1) := dw_at cX2_encode_k5 (p := 15) rfl (by decide +kernel)
theorem dcX2_encode_137 : decode cX2_encode 137 = .ok (.bastore, 1) := dw_at cX2_encode_k5 (p := 16) rfl (by decide +kernel)
theorem dcX2_encode_138 : decode cX2_encode 138 = .ok (.aload_n 0, 1) := dw_at cX2_encode_k5 (p := 17) rfl (by decide +kernel)
theorem dcX2_encode_139 : decode cX2_encode 139 = .ok (.getfield 14, 3) := dw_at cX2_encode_k5 (p := 18) rfl (by decide +kernel)
theorem dcX2_encode_142 : decode cX2_encode 142 = .ok (.getfield 65, 3) := dw_at cX2_encode_k5 (p := 21) rfl (by decide +kernel)
theorem dcX2_encode_145 : decode cX2_encode 145 = .ok (.iconst 0, 1) := dw_at cX2_encode_k6 (p := 0) rfl (by decide +kernel)
theorem dcX2_encode_146 : decode cX2_encode 146 = .ok (.aload_n 1, 1) := dw_at cX2_encode_k6 (p := 1) rfl (by decide +kernel)
theorem dcX2_encode_147 : decode cX2_encode 147 = .ok (.getfield 68, 3) := dw_at cX2_encode_k6 (p := 2) rfl (by decide +kernel)
theorem dcX2_encode_150 : decode cX2_encode 150 = .ok (.i2b, 1) := dw_at cX2_encode_k6 (p := 5) rfl (by decide +kernel)
theorem dcX2_encode_151 : decode cX2_encode 151 = .ok (.bastore, 1) := dw_at cX2_encode_k6 (p := 6) rfl (by decide +kernel)
theorem dcX2_encode_152 : decode cX2_encode 152 = .ok (.return_, 1) := dw_at cX2_encode_k6 (p := 7) rfl (by decide +kernel)
def cm_X2_encode_0 (vl : Nat → Nat) (K : Nat) (go : Nat → Int32 → Int32 → Int32 → Int32 → Nat → Nat → ow_MS → Option ow_MS) (x2 : Int32) (x3 : Int32) (x4 : Int32) (x5 : Int32) (r0 : Nat) (r1 : Nat) (z : ow_MS) : Option ow_MS :=
 cs0 (ce_X2_collectParts vl K r0 r1 (r0 + 3000) z) fun z1 => go 1 0 0 0 0 r0 r1 z1
def cm_X2_encode_1 (vl : Nat → Nat) (K : Nat) (go : Nat → Int32 → Int32 → Int32 → Int32 → Nat → Nat → ow_MS → Option ow_MS) (x2 : Int32) (x3 : Int32) (x4 : Int32) (x5 : Int32) (r0 : Nat) (r1 : Nat) (z : ow_MS) : Option ow_MS :=
 rdF z ((r0 + 3000) + 5) fun v2 => (if v2 ≤ x3 then go 3 x2 0 0 0 r0 r1 z
 else crI (cX vl) z ((r0 + 3000) + 4) x3 fun v3 => crI (cX vl) z ((r0 + 3000) + 2) v3 fun v4 => (if 30 < (x2 + v4) then go 2 x2 x3 v3 v4 r0 r1 z
 else cpB (cX vl) z ((r0 + 3000) + 1) (v3 * 30) ((r0 + 1000) + 1) x2 v4 fun z5 => go 2 (x2 + v4) x3 v3 v4 r0 r1 z5))
def cm_X2_encode_2 (vl : Nat → Nat) (K : Nat) (go : Nat → Int32 → Int32 → Int32 → Int32 → Nat → Nat → ow_MS → Option ow_MS) (x2 : Int32) (x3 : Int32) (x4 : Int32) (x5 : Int32) (r0 : Nat) (r1 : Nat) (z : ow_MS) : Option ow_MS :=
 go 1 x2 (x3 + 1) 0 0 r0 r1 z
def cm_X2_encode_3 (vl : Nat → Nat) (K : Nat) (go : Nat → Int32 → Int32 → Int32 → Int32 → Nat → Nat → ow_MS → Option ow_MS) (x2 : Int32) (x3 : Int32) (x4 : Int32) (x5 : Int32) (r0 : Nat) (r1 : Nat) (z : ow_MS) : Option ow_MS :=
 rdF z (r1 + 9) fun v6 => (if v6 ≤ x3 then go 4 x2 x3 0 0 r0 r1 z
 else (if 30 ≤ x2 then go 4 x2 x3 0 0 r0 r1 z
 else ctB (cX vl) z ((r0 + 1000) + 1) x2 0 fun z7 => go 3 (x2 + 1) (x3 + 1) 0 0 r0 r1 z7))
def cm_X2_encode_4 (vl : Nat → Nat) (K : Nat) (go : Nat → Int32 → Int32 → Int32 → Int32 → Nat → Nat → ow_MS → Option ow_MS) (x2 : Int32) (x3 : Int32) (x4 : Int32) (x5 : Int32) (r0 : Nat) (r1 : Nat) (z : ow_MS) : Option ow_MS :=
 ctB (cX vl) z ((r0 + 1000) + 2) 0 x2.toInt8.toInt32 fun z8 => rdF z8 (r1 + 8) fun v9 => ctB (cX vl) z8 ((r0 + 1000) + 3) 0 v9.toInt8.toInt32 fun z10 => some z10
def cb_X2_encode (vl : Nat → Nat) (K : Nat) (go : Nat → Int32 → Int32 → Int32 → Int32 → Nat → Nat → ow_MS → Option ow_MS) (L : Nat) (x2 : Int32) (x3 : Int32) (x4 : Int32) (x5 : Int32) (r0 : Nat) (r1 : Nat) (z : ow_MS) : Option ow_MS := match L with
  | 0 => cm_X2_encode_0 vl K go x2 x3 x4 x5 r0 r1 z
  | 1 => cm_X2_encode_1 vl K go x2 x3 x4 x5 r0 r1 z
  | 2 => cm_X2_encode_2 vl K go x2 x3 x4 x5 r0 r1 z
  | 3 => cm_X2_encode_3 vl K go x2 x3 x4 x5 r0 r1 z
  | 4 => cm_X2_encode_4 vl K go x2 x3 x4 x5 r0 r1 z
  | _ => none
def c_X2_encode (vl : Nat → Nat) (K : Nat) : Nat → Nat → Int32 → Int32 → Int32 → Int32 → Nat → Nat → ow_MS → Option ow_MS
  | 0 => fun _ _ _ _ _ _ _ _ => none
  | k + 1 => cb_X2_encode vl K (c_X2_encode vl K k)
def ce_X2_encode (vl : Nat → Nat) (K : Nat) (r0 : Nat) (r1 : Nat) (z : ow_MS) : Option ow_MS := c_X2_encode vl K K 0 0 0 0 0 r0 r1 z
abbrev wc_X2_encode : List Cond := .code yX2_encode cX2_encode 6 none :: wC
theorem cdd_X2_encode : yX2_encode.cls = RX2 ∧ yX2_encode.cls ≠ "java/lang/invoke/MethodHandle" ∧ yX2_encode.cls ≠ "java/lang/invoke/VarHandle" ∧ (parseMethodDescriptor yX2_encode.desc).map (fun d => d.parameters.length) = some 1 := by decide +kernel
set_option maxHeartbeats 4000000 in
set_option maxRecDepth 100000 in
theorem kc_X2_encode (l : Launch) (D : va_G) (q : Nat → ClassId) (vl u : Nat → Nat) (hU0 : tw_inj (cX vl) u) (K : Nat) (r0 : Nat) (r1 : Nat) (hr0 : cw_X2 r0) (hr1 : cw_X7 r1) (z z1 : ow_MS) (hq : ce_X2_encode vl K r0 r1 z = some z1) : Met l yX2_encode wc_X2_encode ({ frames := 4, cells := 0, slots := 0, locals := 130 } : Room) (va_Pc [.ref (u r0), .ref (u r1)] (cw_pre D q vl u z)) (va_Qv (fun (_ : Unit) => True) (fun _ t => va_P D vwCl (uw (cX vl) q u z1) t.heap) (tw_A (cX vl) u)) 0 0 (tw_A (cX vl) u) := by
  refine Met.ofW (cc := cX2_encode) (maxL := 6) (ret := none) (by decide) rfl ?_
  intro p e s m args below meth c s₁ B hml hv
  obtain ⟨rfl, hP, hK⟩ := hv
  have hx := B.exec
  have hb := B.bytes
  have hr := B.returns
  have hts := atoms_spec (ws := wc_X2_encode) B.pre
  have hT : ∀ w ∈ wC, w.before ([.ref (u r0), .ref (u r1)] : List Value).toArray s = true := fun w h => hts w (List.mem_cons_of_mem _ h)
  have hown : s.vm.findClass RX2 = some m.cls := findClass_of_methodNamed B.named
  have hlocks := B.notSynchronized
  have hU : uw_inj (cX vl) u (tw_A (cX vl) u) := ⟨hU0, fun h hh => ⟨h, hh, rfl⟩⟩
  have hM : uw_M D vwCl (cX vl) q (tw_A (cX vl) u) s.heap u z s.heap [] := ⟨hP, va_S.rf⟩
  have hl := lv_entry ([.ref (u r0), .ref (u r1)]) (n := 6) (Nat.le_of_ble_eq_true rfl)
  rw [lg_entry_eq]
  generalize (lg_sl ([.ref (u r0), .ref (u r1)]) ++ List.replicate (6 - (lg_sl ([.ref (u r0), .ref (u r1)])).length) Slot.unset).toArray = ls at hl ⊢
  have hl : lv_has ls 6 [(0, .ref (u r0)), (1, .ref (u r1))] := hl
  refine ow_named (fun QQ hQQ => ?_)
  generalize ([.ref (u r0), .ref (u r1)] : List Value).toArray = args at hts hT hQQ ⊢
  have key : ∀ k : Nat, (∀ (x2 : Int32) (x3 : Int32) (x4 : Int32) (x5 : Int32) (r0 : Nat) (r1 : Nat) (z : ow_MS) (H : Heap) (locs : List Loc) (ls : Array Slot), cw_X2 r0 → cw_X7 r1 → uw_M D vwCl (cX vl) q (tw_A (cX vl) u) s.heap u z H locs → lv_has ls 6 [(0, .ref (u r0)), (1, .ref (u r1))] → c_X2_encode vl K k 0 x2 x3 x4 x5 r0 r1 z = some z1 → W p l e ({ frames := 4, cells := 0, slots := 0, locals := 130 } : Room) s m args below meth c H locs 0 0 QQ (F0 m 0 ls [])) ∧ (∀ (x2 : Int32) (x3 : Int32) (x4 : Int32) (x5 : Int32) (r0 : Nat) (r1 : Nat) (z : ow_MS) (H : Heap) (locs : List Loc) (ls : Array Slot), cw_X2 r0 → cw_X7 r1 → uw_M D vwCl (cX vl) q (tw_A (cX vl) u) s.heap u z H locs → lv_has ls 6 [(0, .ref (u r0)), (1, .ref (u r1)), (2, .int x2), (3, .int x3)] → c_X2_encode vl K k 1 x2 x3 x4 x5 r0 r1 z = some z1 → W p l e ({ frames := 4, cells := 0, slots := 0, locals := 130 } : Room) s m args below meth c H locs 0 0 QQ (F0 m 13 ls [])) ∧ (∀ (x2 : Int32) (x3 : Int32) (x4 : Int32) (x5 : Int32) (r0 : Nat) (r1 : Nat) (z : ow_MS) (H : Heap) (locs : List Loc) (ls : Array Slot), cw_X2 r0 → cw_X7 r1 → uw_M D vwCl (cX vl) q (tw_A (cX vl) u) s.heap u z H locs → lv_has ls 6 [(0, .ref (u r0)), (1, .ref (u r1)), (2, .int x2), (3, .int x3), (4, .int x4), (5, .int x5)] → c_X2_encode vl K k 2 x2 x3 x4 x5 r0 r1 z = some z1 → W p l e ({ frames := 4, cells := 0, slots := 0, locals := 130 } : Room) s m args below meth c H locs 0 0 QQ (F0 m 86 ls [])) ∧ (∀ (x2 : Int32) (x3 : Int32) (x4 : Int32) (x5 : Int32) (r0 : Nat) (r1 : Nat) (z : ow_MS) (H : Heap) (locs : List Loc) (ls : Array Slot), cw_X2 r0 → cw_X7 r1 → uw_M D vwCl (cX vl) q (tw_A (cX vl) u) s.heap u z H locs → lv_has ls 6 [(0, .ref (u r0)), (1, .ref (u r1)), (2, .int x2), (3, .int x3)] → c_X2_encode vl K k 3 x2 x3 x4 x5 r0 r1 z = some z1 → W p l e ({ frames := 4, cells := 0, slots := 0, locals := 130 } : Room) s m args below meth c H locs 0 0 QQ (F0 m 94 ls [])) ∧ (∀ (x2 : Int32) (x3 : Int32) (x4 : Int32) (x5 : Int32) (r0 : Nat) (r1 : Nat) (z : ow_MS) (H : Heap) (locs : List Loc) (ls : Array Slot), cw_X2 r0 → cw_X7 r1 → uw_M D vwCl (cX vl) q (tw_A (cX vl) u) s.heap u z H locs → lv_has ls 6 [(0, .ref (u r0)), (1, .ref (u r1)), (2, .int x2), (3, .int x3)] → c_X2_encode vl K k 4 x2 x3 x4 x5 r0 r1 z = some z1 → W p l e ({ frames := 4, cells := 0, slots := 0, locals := 130 } : Room) s m args below meth c H locs 0 0 QQ (F0 m 127 ls [])) := by
    intro k
    induction k with
    | zero => exact ⟨fun _ _ _ _ _ _ _ _ _ _ _ _ _ _ hq => cw_no hq, fun _ _ _ _ _ _ _ _ _ _ _ _ _ _ hq => cw_no hq, fun _ _ _ _ _ _ _ _ _ _ _ _ _ _ hq => cw_no hq, fun _ _ _ _ _ _ _ _ _ _ _ _ _ _ hq => cw_no hq, fun _ _ _ _ _ _ _ _ _ _ _ _ _ _ hq => cw_no hq⟩
    | succ k ih =>
      obtain ⟨ih_0, ih_1, ih_2, ih_3, ih_4⟩ := ih
      refine ⟨?_, ?_, ?_, ?_, ?_⟩
      · intro x2 x3 x4 x5 r0 r1 z H locs ls hr0 hr1 hM hl hq
        have hq : cm_X2_encode_0 vl K (c_X2_encode vl K k) x2 x3 x4 x5 r0 r1 z = some z1 := hq
        unfold cm_X2_encode_0 at hq
        refine lv_aload_n hx hb dcX2_encode_0 rfl (lv_at hl 0 rfl) ?_
        refine lv_aload_n hx hb dcX2_encode_1 rfl (lv_at hl 1 rfl) ?_
        refine lv_aload_n hx hb dcX2_encode_2 rfl (lv_at hl 0 rfl) ?_
        refine vgX2_23 hx hb hT hown hK hM hr0 dcX2_encode_3 ?_
        obtain ⟨z1, hcq, hq⟩ := tw_cl0 hq
        refine uw_calv hU hM (va_runV (As := [.ref (u r1), .ref (u (r0 + 3000))]) (rest := []) ⟨hx, hb, hml, hown, hts⟩ (kc_X2_collectParts l D q vl u hU.1 K r0 r1 (r0 + 3000) hr0 hr1 (cs_X2_2 hr0) z z1 hcq) (cwV 2 hts (tw_gV wC_good xq_280 xq_281 xq_282 xq_283 xq_284) rfl rfl rfl cdd_X2_collectParts ⟨(Nat.le_of_ble_eq_true rfl), (Nat.le_of_ble_eq_true rfl)⟩) (cw_preV hK hM (co_X2 hr0) rfl) rfl rfl hl.1 rfl (lv_room (Nat.le_of_ble_eq_true rfl)) dcX2_encode_6 ⟨(Nat.le_of_ble_eq_true rfl), (Nat.le_of_ble_eq_true rfl)⟩) (fun H locs hM => ?_)
        refine lv_iconst (v := 0) hx hb dcX2_encode_9 (by decide) ?_
        refine lv_istore_n (lv' := [(2, .int 0), (0, .ref (u r0)), (1, .ref (u r1))]) hx hb dcX2_encode_10 rfl hl (by decide) rfl (fun ls hl => ?_)
        refine lv_iconst (v := 0) hx hb dcX2_encode_11 (by decide) ?_
        refine lv_istore_n (lv' := [(3, .int 0), (2, .int 0), (0, .ref (u r0)), (1, .ref (u r1))]) hx hb dcX2_encode_12 rfl hl (by decide) rfl (fun ls hl => ?_)
        exact ih_1 0 0 0 0 r0 r1 z1 H locs ls hr0 hr1 hM (lv_sub hl [2, 3, 1, 0] rfl) hq
      · intro x2 x3 x4 x5 r0 r1 z H locs ls hr0 hr1 hM hl hq
        have hq : cm_X2_encode_1 vl K (c_X2_encode vl K k) x2 x3 x4 x5 r0 r1 z = some z1 := hq
        unfold cm_X2_encode_1 at hq
        refine lv_iload_n hx hb dcX2_encode_13 rfl (lv_at hl 3 rfl) ?_
        refine lv_aload_n hx hb dcX2_encode_14 rfl (lv_at hl 0 rfl) ?_
        refine vgX2_23 hx hb hT hown hK hM hr0 dcX2_encode_15 ?_
        refine vgX2_41 hx hb hT hown hK hM (cs_X2_2 hr0) hq dcX2_encode_18 (fun v2 hq => ?_)
        refine lv_icmp_ge (tgt := 92) hx hb dcX2_encode_21 (by decide) (fun hc => ?_) (fun hc => ?_)
        · have hq := tw_it hq hc
          refine lv_iconst (v := 0) hx hb dcX2_encode_92 (by decide) ?_
          refine lv_istore_n (lv' := [(3, .int 0), (0, .ref (u r0)), (1, .ref (u r1)), (2, .int x2)]) hx hb dcX2_encode_93 rfl hl (by decide) rfl (fun ls hl => ?_)
          exact ih_3 x2 0 0 0 r0 r1 z H locs ls hr0 hr1 hM (lv_sub hl [1, 2, 3, 0] rfl) hq
        · have hq := tw_if hq hc
          refine lv_aload_n hx hb dcX2_encode_24 rfl (lv_at hl 0 rfl) ?_
          refine vgX2_23 hx hb hT hown hK hM hr0 dcX2_encode_25 ?_
          refine vgX2_45 hx hb hT hown hK hM (cs_X2_2 hr0) dcX2_encode_28 ?_
          refine lv_iload_n hx hb dcX2_encode_31 rfl (lv_at hl 3 rfl) ?_
          refine uw_iald cX_ok hx hb hK hM (cr_X3_3 (cs_X2_2 hr0)) hq dcX2_encode_32 (fun v3 hq => ?_)
          refine lv_istore (lv' := [(4, .int v3), (0, .ref (u r0)), (1, .ref (u r1)), (2, .int x2), (3, .int x3)]) hx hb dcX2_encode_33 hl (by decide) rfl (fun ls hl => ?_)
          refine lv_aload_n hx hb dcX2_encode_35 rfl (lv_at hl 1 rfl) ?_
          refine vgX2_23 hx hb hT hown hK hM hr0 dcX2_encode_36 ?_
          refine vgX2_48 hx hb hT hown hK hM (cs_X2_2 hr0) dcX2_encode_39 ?_
          refine lv_iload hx hb dcX2_encode_42 (lv_at hl 0 rfl) ?_
          refine uw_bald cX_ok hx hb hK hM (cr_X3_1 (cs_X2_2 hr0)) hq dcX2_encode_44 (fun v4 hq => ?_)
          refine lv_istore (lv' := [(5, .int v4), (4, .int v3), (0, .ref (u r0)), (1, .ref (u r1)), (2, .int x2), (3, .int x3)]) hx hb dcX2_encode_45 hl (by decide) rfl (fun ls hl => ?_)
          refine lv_iload_n hx hb dcX2_encode_47 rfl (lv_at hl 4 rfl) ?_
          refine lv_iload hx hb dcX2_encode_48 (lv_at hl 0 rfl) ?_
          refine lv_iadd hx hb dcX2_encode_50 ?_
          refine lv_bipush (v := 30) hx hb dcX2_encode_51 (by decide) ?_
          refine lv_icmp_gt (tgt := 86) hx hb dcX2_encode_53 (by decide) (fun hc => ?_) (fun hc => ?_)
          · have hq := tw_it hq hc
            exact ih_2 x2 x3 v3 v4 r0 r1 z H locs ls hr0 hr1 hM (lv_sub hl [2, 3, 4, 5, 1, 0] rfl) hq
          · have hq := tw_if hq hc
            refine lv_aload_n hx hb dcX2_encode_56 rfl (lv_at hl 2 rfl) ?_
            refine vgX2_23 hx hb hT hown hK hM hr0 dcX2_encode_57 ?_
            refine vgX2_51 hx hb hT hown hK hM (cs_X2_2 hr0) dcX2_encode_60 ?_
            refine lv_iload hx hb dcX2_encode_63 (lv_at hl 1 rfl) ?_
            refine lv_bipush (v := 30) hx hb dcX2_encode_65 (by decide) ?_
            refine lv_imul hx hb dcX2_encode_67 ?_
            refine lv_aload_n hx hb dcX2_encode_68 rfl (lv_at hl 2 rfl) ?_
            refine vgX2_14 hx hb hT hown hK hM hr0 dcX2_encode_69 ?_
            refine vgX2_51 hx hb hT hown hK hM (cs_X2_0 hr0) dcX2_encode_72 ?_
            refine lv_iload_n hx hb dcX2_encode_75 rfl (lv_at hl 4 rfl) ?_
            refine lv_iload hx hb dcX2_encode_76 (lv_at hl 0 rfl) ?_
            refine uw_cpB cX_ok hU hx hb (by rw [hml]; exact hl.1.symm) hown (hT _ xq_276) (hT _ xq_130) (hT _ xq_131) (hT _ xq_132) hK hM (cr_X3_0 (cs_X2_2 hr0)) (cr_X3_0 (cs_X2_0 hr0)) hq (Nat.le_of_ble_eq_true rfl) (by decide) dcX2_encode_78 (fun z5 H locs hM hq => ?_)
            refine lv_iload_n hx hb dcX2_encode_81 rfl (lv_at hl 4 rfl) ?_
            refine lv_iload hx hb dcX2_encode_82 (lv_at hl 0 rfl) ?_
            refine lv_iadd hx hb dcX2_encode_84 ?_
            refine lv_istore_n (lv' := [(2, .int (x2 + v4)), (5, .int v4), (4, .int v3), (0, .ref (u r0)), (1, .ref (u r1)), (3, .int x3)]) hx hb dcX2_encode_85 rfl hl (by decide) rfl (fun ls hl => ?_)
            exact ih_2 (x2 + v4) x3 v3 v4 r0 r1 z5 H locs ls hr0 hr1 hM (lv_sub hl [3, 4, 0, 5, 2, 1] rfl) hq
      · intro x2 x3 x4 x5 r0 r1 z H locs ls hr0 hr1 hM hl hq
        have hq : cm_X2_encode_2 vl K (c_X2_encode vl K k) x2 x3 x4 x5 r0 r1 z = some z1 := hq
        unfold cm_X2_encode_2 at hq
        refine lv_iinc (v := (x3 + 1)) (lv' := [(3, .int (x3 + 1)), (0, .ref (u r0)), (1, .ref (u r1)), (2, .int x2), (4, .int x4), (5, .int x5)]) hx hb dcX2_encode_86 hl (k := 3) rfl rfl (by decide) rfl (fun ls hl => ?_)
        refine lv_goto (tgt := 13) hx hb dcX2_encode_89 (by decide) ?_
        exact ih_1 x2 (x3 + 1) 0 0 r0 r1 z H locs ls hr0 hr1 hM (lv_sub hl [1, 2, 3, 0] rfl) hq
      · intro x2 x3 x4 x5 r0 r1 z H locs ls hr0 hr1 hM hl hq
        have hq : cm_X2_encode_3 vl K (c_X2_encode vl K k) x2 x3 x4 x5 r0 r1 z = some z1 := hq
        unfold cm_X2_encode_3 at hq
        refine lv_iload_n hx hb dcX2_encode_94 rfl (lv_at hl 3 rfl) ?_
        refine lv_aload_n hx hb dcX2_encode_95 rfl (lv_at hl 1 rfl) ?_
        refine vgX2_60 hx hb hT hown hK hM hr1 hq dcX2_encode_96 (fun v6 hq => ?_)
        refine lv_icmp_ge (tgt := 127) hx hb dcX2_encode_99 (by decide) (fun hc => ?_) (fun hc => ?_)
        · have hq := tw_it hq hc
          exact ih_4 x2 x3 0 0 r0 r1 z H locs ls hr0 hr1 hM (lv_sub hl [0, 1, 2, 3] rfl) hq
        · have hq := tw_if hq hc
          refine lv_iload_n hx hb dcX2_encode_102 rfl (lv_at hl 2 rfl) ?_
          refine lv_bipush (v := 30) hx hb dcX2_encode_103 (by decide) ?_
          refine lv_icmp_ge (tgt := 127) hx hb dcX2_encode_105 (by decide) (fun hc => ?_) (fun hc => ?_)
          · have hq := tw_it hq hc
            exact ih_4 x2 x3 0 0 r0 r1 z H locs ls hr0 hr1 hM (lv_sub hl [0, 1, 2, 3] rfl) hq
          · have hq := tw_if hq hc
            refine lv_aload_n hx hb dcX2_encode_108 rfl (lv_at hl 0 rfl) ?_
            refine vgX2_14 hx hb hT hown hK hM hr0 dcX2_encode_109 ?_
            refine vgX2_51 hx hb hT hown hK hM (cs_X2_0 hr0) dcX2_encode_112 ?_
            refine lv_iload_n hx hb dcX2_encode_115 rfl (lv_at hl 2 rfl) ?_
            refine lv_iconst (v := 0) hx hb dcX2_encode_116 (by decide) ?_
            refine uw_bast cX_ok hU hx hb hK hM (cr_X3_0 (cs_X2_0 hr0)) hq dcX2_encode_117 (fun z7 H locs hM hq => ?_)
            refine lv_iinc (v := (x2 + 1)) (lv' := [(2, .int (x2 + 1)), (0, .ref (u r0)), (1, .ref (u r1)), (3, .int x3)]) hx hb dcX2_encode_118 hl (k := 2) rfl rfl (by decide) rfl (fun ls hl => ?_)
            refine lv_iinc (v := (x3 + 1)) (lv' := [(3, .int (x3 + 1)), (2, .int (x2 + 1)), (0, .ref (u r0)), (1, .ref (u r1))]) hx hb dcX2_encode_121 hl (k := 3) rfl rfl (by decide) rfl (fun ls hl => ?_)
            refine lv_goto (tgt := 94) hx hb dcX2_encode_124 (by decide) ?_
            exact ih_3 (x2 + 1) (x3 + 1) 0 0 r0 r1 z7 H locs ls hr0 hr1 hM (lv_sub hl [2, 3, 1, 0] rfl) hq
      · intro x2 x3 x4 x5 r0 r1 z H locs ls hr0 hr1 hM hl hq
        have hq : cm_X2_encode_4 vl K (c_X2_encode vl K k) x2 x3 x4 x5 r0 r1 z = some z1 := hq
        unfold cm_X2_encode_4 at hq
        refine lv_aload_n hx hb dcX2_encode_127 rfl (lv_at hl 0 rfl) ?_
        refine vgX2_14 hx hb hT hown hK hM hr0 dcX2_encode_128 ?_
        refine vgX2_48 hx hb hT hown hK hM (cs_X2_0 hr0) dcX2_encode_131 ?_
        refine lv_iconst (v := 0) hx hb dcX2_encode_134 (by decide) ?_
        refine lv_iload_n hx hb dcX2_encode_135 rfl (lv_at hl 2 rfl) ?_
        refine lv_i2b hx hb dcX2_encode_136 rfl ?_
        refine uw_bast cX_ok hU hx hb hK hM (cr_X3_1 (cs_X2_0 hr0)) hq dcX2_encode_137 (fun z8 H locs hM hq => ?_)
        refine lv_aload_n hx hb dcX2_encode_138 rfl (lv_at hl 0 rfl) ?_
        refine vgX2_14 hx hb hT hown hK hM hr0 dcX2_encode_139 ?_
        refine vgX2_65 hx hb hT hown hK hM (cs_X2_0 hr0) dcX2_encode_142 ?_
        refine lv_iconst (v := 0) hx hb dcX2_encode_145 (by decide) ?_
        refine lv_aload_n hx hb dcX2_encode_146 rfl (lv_at hl 1 rfl) ?_
        refine vgX2_68 hx hb hT hown hK hM hr1 hq dcX2_encode_147 (fun v9 hq => ?_)
        refine lv_i2b hx hb dcX2_encode_150 rfl ?_
        refine uw_bast cX_ok hU hx hb hK hM (cr_X3_2 (cs_X2_0 hr0)) hq dcX2_encode_151 (fun z10 H locs hM hq => ?_)
        exact cw_vret hx hb hr hlocks hM hq hQQ dcX2_encode_152
  exact (key K).1 0 0 0 0 r0 r1 z s.heap [] ls hr0 hr1 hM (lv_sub hl [0, 1] rfl) hq
theorem dcX3_addNew_0 : decode cX3_addNew 0 = .ok (.aload_n 0, 1) := by decide +kernel
theorem dcX3_addNew_1 : decode cX3_addNew 1 = .ok (.aload_n 1, 1) := by decide +kernel
theorem dcX3_addNew_2 : decode cX3_addNew 2 = .ok (.iload_n 2, 1) := by decide +kernel
theorem dcX3_addNew_3 : decode cX3_addNew 3 = .ok (.invokevirtual 45, 3) := by decide +kernel
theorem dcX3_addNew_6 : decode cX3_addNew 6 = .ok (.istore_n 3, 1) := by decide +kernel
theorem dcX3_addNew_7 : decode cX3_addNew 7 = .ok (.iload_n 3, 1) := by decide +kernel
theorem dcX3_addNew_8 : decode cX3_addNew 8 = .ok (.ifCond .ge 12, 3) := by decide +kernel
theorem dcX3_addNew_11 : decode cX3_addNew 11 = .ok (.aload_n 0, 1) := by decide +kernel
theorem dcX3_addNew_12 : decode cX3_addNew 12 = .ok (.iconst (-1), 1) := by decide +kernel
theorem dcX3_addNew_13 : decode cX3_addNew 13 = .ok (.iload_n 3, 1) := by decide +kernel
theorem dcX3_addNew_14 : decode cX3_addNew 14 = .ok (.isub, 1) := by decide +kernel
theorem dcX3_addNew_15 : decode cX3_addNew 15 = .ok (.aload_n 1, 1) := by decide +kernel
theorem dcX3_addNew_16 : decode cX3_addNew 16 = .ok (.iload_n 2, 1) := by decide +kernel
theorem dcX3_addNew_17 : decode cX3_addNew 17 = .ok (.invokevirtual 49, 3) := by decide +kernel
theorem dcX3_addNew_20 : decode cX3_addNew 20 = .ok (.return_, 1) := by decide +kernel
def cm_X3_addNew_0 (vl : Nat → Nat) (K : Nat) (x2 : Int32) (r0 : Nat) (r1 : Nat) (z : ow_MS) : Option ow_MS :=
 cs1 (ce_X3_find vl K r0 r1 x2 z) fun v2 z1 => (if 0 ≤ v2 then some z1
 else cs0 (ce_X3_insert vl K r0 ((-1) - v2) r1 x2 z1) fun z3 => some z3)
def ce_X3_addNew (vl : Nat → Nat) (K : Nat) (r0 : Nat) (r1 : Nat) (x2 : Int32) (z : ow_MS) : Option ow_MS := cm_X3_addNew_0 vl K x2 r0 r1 z
abbrev wc_X3_addNew : List Cond := .code yX3_addNew cX3_addNew 4 none :: wC
theorem cdd_X3_addNew : yX3_addNew.cls = RX3 ∧ yX3_addNew.cls ≠ "java/lang/invoke/MethodHandle" ∧ yX3_addNew.cls ≠ "java/lang/invoke/VarHandle" ∧ (parseMethodDescriptor yX3_addNew.desc).map (fun d => d.parameters.length) = some 2 := by decide +kernel
set_option maxHeartbeats 4000000 in
set_option maxRecDepth 100000 in
theorem kc_X3_addNew (l : Launch) (D : va_G) (q : Nat → ClassId) (vl u : Nat → Nat) (hU0 : tw_inj (cX vl) u) (K : Nat) (r0 : Nat) (r1 : Nat) (x2 : Int32) (hr0 : cw_X3 r0) (hr1 : cw_X3 r1) (z z1 : ow_MS) (hq : ce_X3_addNew vl K r0 r1 x2 z = some z1) : Met l yX3_addNew wc_X3_addNew ({ frames := 3, cells := 0, slots := 0, locals := 106 } : Room) (va_Pc [.ref (u r0), .ref (u r1), .int x2] (cw_pre D q vl u z)) (va_Qv (fun (_ : Unit) => True) (fun _ t => va_P D vwCl (uw (cX vl) q u z1) t.heap) (tw_A (cX vl) u)) 0 0 (tw_A (cX vl) u) := by
  refine Met.ofW (cc := cX3_addNew) (maxL := 4) (ret := none) (by decide) rfl ?_
  intro p e s m args below meth c s₁ B hml hv
  obtain ⟨rfl, hP, hK⟩ := hv
  have hx := B.exec
  have hb := B.bytes
  have hr := B.returns
  have hts := atoms_spec (ws := wc_X3_addNew) B.pre
  have hT : ∀ w ∈ wC, w.before ([.ref (u r0), .ref (u r1), .int x2] : List Value).toArray s = true := fun w h => hts w (List.mem_cons_of_mem _ h)
  have hown : s.vm.findClass RX3 = some m.cls := findClass_of_methodNamed B.named
  have hlocks := B.notSynchronized
  have hU : uw_inj (cX vl) u (tw_A (cX vl) u) := ⟨hU0, fun h hh => ⟨h, hh, rfl⟩⟩
  have hM : uw_M D vwCl (cX vl) q (tw_A (cX vl) u) s.heap u z s.heap [] := ⟨hP, va_S.rf⟩
  have hl := lv_entry ([.ref (u r0), .ref (u r1), .int x2]) (n := 4) (Nat.le_of_ble_eq_true rfl)
  rw [lg_entry_eq]
  generalize (lg_sl ([.ref (u r0), .ref (u r1), .int x2]) ++ List.replicate (4 - (lg_sl ([.ref (u r0), .ref (u r1), .int x2])).length) Slot.unset).toArray = ls at hl ⊢
  have hl : lv_has ls 4 [(0, .ref (u r0)), (1, .ref (u r1)), (2, .int x2)] := hl
  refine ow_named (fun QQ hQQ => ?_)
  generalize ([.ref (u r0), .ref (u r1), .int x2] : List Value).toArray = args at hts hT hQQ ⊢
  have hq : cm_X3_addNew_0 vl K x2 r0 r1 z = some z1 := hq
  unfold cm_X3_addNew_0 at hq
  suffices key : ∀ (H : Heap) (locs : List Loc), uw_M D vwCl (cX vl) q (tw_A (cX vl) u) s.heap u z H locs → W p l e ({ frames := 3, cells := 0, slots := 0, locals := 106 } : Room) s m args below meth c H locs 0 0 QQ (F0 m 0 ls []) from key s.heap [] hM
  intro H locs hM
  refine lv_aload_n hx hb dcX3_addNew_0 rfl (lv_at hl 0 rfl) ?_
  refine lv_aload_n hx hb dcX3_addNew_1 rfl (lv_at hl 1 rfl) ?_
  refine lv_iload_n hx hb dcX3_addNew_2 rfl (lv_at hl 2 rfl) ?_
  obtain ⟨v2, z1, hcq, hq⟩ := tw_cl1 hq
  refine uw_cali hU hM (va_runV (As := [.ref (u r1), .int x2]) (rest := []) ⟨hx, hb, hml, hown, hts⟩ (kc_X3_find l D q vl u hU.1 K r0 r1 x2 hr0 hr1 z z1 v2 hcq) (cwV 2 hts (tw_gV wC_good xq_335 xq_311 xq_312 xq_313 xq_314) rfl rfl rfl cdd_X3_find ⟨(Nat.le_of_ble_eq_true rfl), (Nat.le_of_ble_eq_true rfl)⟩) (cw_preV hK hM (co_X3 hr0) rfl) rfl rfl hl.1 rfl (lv_room (Nat.le_of_ble_eq_true rfl)) dcX3_addNew_3 ⟨(Nat.le_of_ble_eq_true rfl), (Nat.le_of_ble_eq_true rfl)⟩) (fun H locs hM => ?_)
  refine lv_istore_n (lv' := [(3, .int v2), (0, .ref (u r0)), (1, .ref (u r1)), (2, .int x2)]) hx hb dcX3_addNew_6 rfl hl (by decide) rfl (fun ls hl => ?_)
  refine lv_iload_n hx hb dcX3_addNew_7 rfl (lv_at hl 0 rfl) ?_
  refine lv_if_ge (tgt := 20) hx hb dcX3_addNew_8 (by decide) (fun hc => ?_) (fun hc => ?_)
  · have hq := tw_it hq hc
    exact cw_vret hx hb hr hlocks hM hq hQQ dcX3_addNew_20
  · have hq := tw_if hq hc
    refine lv_aload_n hx hb dcX3_addNew_11 rfl (lv_at hl 1 rfl) ?_
    refine lv_iconst (v := (-1)) hx hb dcX3_addNew_12 (by decide) ?_
    refine lv_iload_n hx hb dcX3_addNew_13 rfl (lv_at hl 0 rfl) ?_
    refine lv_isub hx hb dcX3_addNew_14 ?_
    refine lv_aload_n hx hb dcX3_addNew_15 rfl (lv_at hl 2 rfl) ?_
    refine lv_iload_n hx hb dcX3_addNew_16 rfl (lv_at hl 3 rfl) ?_
    obtain ⟨z3, hcq, hq⟩ := tw_cl0 hq
    refine uw_calv hU hM (va_runV (As := [.int ((-1) - v2), .ref (u r1), .int x2]) (rest := []) ⟨hx, hb, hml, hown, hts⟩ (kc_X3_insert l D q vl u hU.1 K r0 ((-1) - v2) r1 x2 hr0 hr1 z1 z3 hcq) (cwV 3 hts (tw_gV wC_good xq_336 xq_326 xq_327 xq_313 xq_328) rfl rfl rfl cdd_X3_insert ⟨(Nat.le_of_ble_eq_true rfl), (Nat.le_of_ble_eq_true rfl)⟩) (cw_preV hK hM (co_X3 hr0) rfl) rfl rfl hl.1 rfl (lv_room (Nat.le_of_ble_eq_true rfl)) dcX3_addNew_17 ⟨(Nat.le_of_ble_eq_true rfl), (Nat.le_of_ble_eq_true rfl)⟩) (fun H locs hM => ?_)
    exact cw_vret hx hb hr hlocks hM hq hQQ dcX3_addNew_20
theorem dcX3_meets_0 : decode cX3_meets 0 = .ok (.iconst 0, 1) := by decide +kernel
theorem dcX3_meets_1 : decode cX3_meets 1 = .ok (.istore_n 2, 1) := by decide +kernel
theorem dcX3_meets_2 : decode cX3_meets 2 = .ok (.iload_n 2, 1) := by decide +kernel
theorem dcX3_meets_3 : decode cX3_meets 3 = .ok (.aload_n 0, 1) := by decide +kernel
theorem dcX3_meets_4 : decode cX3_meets 4 = .ok (.getfield 37, 3) := by decide +kernel
theorem dcX3_meets_7 : decode cX3_meets 7 = .ok (.if_icmp .ge 20, 3) := by decide +kernel
theorem dcX3_meets_10 : decode cX3_meets 10 = .ok (.aload_n 1, 1) := by decide +kernel
theorem dcX3_meets_11 : decode cX3_meets 11 = .ok (.aload_n 0, 1) := by decide +kernel
theorem dcX3_meets_12 : decode cX3_meets 12 = .ok (.iload_n 2, 1) := by decide +kernel
theorem dcX3_meets_13 : decode cX3_meets 13 = .ok (.invokevirtual 45, 3) := by decide +kernel
theorem dcX3_meets_16 : decode cX3_meets 16 = .ok (.ifCond .lt 5, 3) := by decide +kernel
theorem dcX3_meets_19 : decode cX3_meets 19 = .ok (.iconst 1, 1) := by decide +kernel
theorem dcX3_meets_20 : decode cX3_meets 20 = .ok (.ireturn, 1) := by decide +kernel
theorem dcX3_meets_21 : decode cX3_meets 21 = .ok (.iinc 2 1, 3) := by decide +kernel
theorem dcX3_meets_24 : decode cX3_meets 24 = .ok (.goto (-22), 3) := by decide +kernel
theorem dcX3_meets_27 : decode cX3_meets 27 = .ok (.iconst 0, 1) := by decide +kernel
theorem dcX3_meets_28 : decode cX3_meets 28 = .ok (.ireturn, 1) := by decide +kernel
def cm_X3_meets_0 (vl : Nat → Nat) (K : Nat) (go : Nat → Int32 → Nat → Nat → ow_MS → Option (Int32 × ow_MS)) (x2 : Int32) (r0 : Nat) (r1 : Nat) (z : ow_MS) : Option (Int32 × ow_MS) :=
 go 1 0 r0 r1 z
def cm_X3_meets_1 (vl : Nat → Nat) (K : Nat) (go : Nat → Int32 → Nat → Nat → ow_MS → Option (Int32 × ow_MS)) (x2 : Int32) (r0 : Nat) (r1 : Nat) (z : ow_MS) : Option (Int32 × ow_MS) :=
 rdF z (r0 + 5) fun v1 => (if v1 ≤ x2 then okZ 0 (some (0, z))
 else cs1 (ce_X3_find vl K r1 r0 x2 z) fun v3 z2 => (if v3 < 0 then go 1 (x2 + 1) r0 r1 z2
 else okZ 1 (some (1, z2))))
def cb_X3_meets (vl : Nat → Nat) (K : Nat) (go : Nat → Int32 → Nat → Nat → ow_MS → Option (Int32 × ow_MS)) (L : Nat) (x2 : Int32) (r0 : Nat) (r1 : Nat) (z : ow_MS) : Option (Int32 × ow_MS) := match L with
  | 0 => cm_X3_meets_0 vl K go x2 r0 r1 z
  | 1 => cm_X3_meets_1 vl K go x2 r0 r1 z
  | _ => none
def c_X3_meets (vl : Nat → Nat) (K : Nat) : Nat → Nat → Int32 → Nat → Nat → ow_MS → Option (Int32 × ow_MS)
  | 0 => fun _ _ _ _ _ => none
  | k + 1 => cb_X3_meets vl K (c_X3_meets vl K k)
def ce_X3_meets (vl : Nat → Nat) (K : Nat) (r0 : Nat) (r1 : Nat) (z : ow_MS) : Option (Int32 × ow_MS) := c_X3_meets vl K K 0 0 r0 r1 z
abbrev wc_X3_meets : List Cond := .code yX3_meets cX3_meets 3 (some .boolean) :: wC
theorem cdd_X3_meets : yX3_meets.cls = RX3 ∧ yX3_meets.cls ≠ "java/lang/invoke/MethodHandle" ∧ yX3_meets.cls ≠ "java/lang/invoke/VarHandle" ∧ (parseMethodDescriptor yX3_meets.desc).map (fun d => d.parameters.length) = some 1 := by decide +kernel
set_option maxHeartbeats 4000000 in
set_option maxRecDepth 100000 in
theorem kc_X3_meets (l : Launch) (D : va_G) (q : Nat → ClassId) (vl u : Nat → Nat) (hU0 : tw_inj (cX vl) u) (K : Nat) (r0 : Nat) (r1 : Nat) (hr0 : cw_X3 r0) (hr1 : cw_X3 r1) (z z1 : ow_MS) (r : Int32) (hq : ce_X3_meets vl K r0 r1 z = some (r, z1)) : Met l yX3_meets wc_X3_meets ({ frames := 3, cells := 0, slots := 0, locals := 84 } : Room) (va_Pc [.ref (u r0), .ref (u r1)] (cw_pre D q vl u z)) (va_Qi (fun x (_ : Unit) => x = r) (fun _ t => va_P D vwCl (uw (cX vl) q u z1) t.heap) (tw_A (cX vl) u)) 0 0 (tw_A (cX vl) u) := by
  refine Met.ofW (cc := cX3_meets) (maxL := 3) (ret := (some .boolean)) (by decide) rfl ?_
  intro p e s m args below meth c s₁ B hml hv
  obtain ⟨rfl, hP, hK⟩ := hv
  have hx := B.exec
  have hb := B.bytes
  have hr := B.returns
  have hts := atoms_spec (ws := wc_X3_meets) B.pre
  have hT : ∀ w ∈ wC, w.before ([.ref (u r0), .ref (u r1)] : List Value).toArray s = true := fun w h => hts w (List.mem_cons_of_mem _ h)
  have hown : s.vm.findClass RX3 = some m.cls := findClass_of_methodNamed B.named
  have hlocks := B.notSynchronized
  have hU : uw_inj (cX vl) u (tw_A (cX vl) u) := ⟨hU0, fun h hh => ⟨h, hh, rfl⟩⟩
  have hM : uw_M D vwCl (cX vl) q (tw_A (cX vl) u) s.heap u z s.heap [] := ⟨hP, va_S.rf⟩
  have hl := lv_entry ([.ref (u r0), .ref (u r1)]) (n := 3) (Nat.le_of_ble_eq_true rfl)
  rw [lg_entry_eq]
  generalize (lg_sl ([.ref (u r0), .ref (u r1)]) ++ List.replicate (3 - (lg_sl ([.ref (u r0), .ref (u r1)])).length) Slot.unset).toArray = ls at hl ⊢
  have hl : lv_has ls 3 [(0, .ref (u r0)), (1, .ref (u r1))] := hl
  refine ow_named (fun QQ hQQ => ?_)
  generalize ([.ref (u r0), .ref (u r1)] : List Value).toArray = args at hts hT hQQ ⊢
  have key : ∀ k : Nat, (∀ (x2 : Int32) (r0 : Nat) (r1 : Nat) (z : ow_MS) (H : Heap) (locs : List Loc) (ls : Array Slot), cw_X3 r0 → cw_X3 r1 → uw_M D vwCl (cX vl) q (tw_A (cX vl) u) s.heap u z H locs → lv_has ls 3 [(0, .ref (u r0)), (1, .ref (u r1))] → c_X3_meets vl K k 0 x2 r0 r1 z = some (r, z1) → W p l e ({ frames := 3, cells := 0, slots := 0, locals := 84 } : Room) s m args below meth c H locs 0 0 QQ (F0 m 0 ls [])) ∧ (∀ (x2 : Int32) (r0 : Nat) (r1 : Nat) (z : ow_MS) (H : Heap) (locs : List Loc) (ls : Array Slot), cw_X3 r0 → cw_X3 r1 → uw_M D vwCl (cX vl) q (tw_A (cX vl) u) s.heap u z H locs → lv_has ls 3 [(0, .ref (u r0)), (1, .ref (u r1)), (2, .int x2)] → c_X3_meets vl K k 1 x2 r0 r1 z = some (r, z1) → W p l e ({ frames := 3, cells := 0, slots := 0, locals := 84 } : Room) s m args below meth c H locs 0 0 QQ (F0 m 2 ls [])) := by
    intro k
    induction k with
    | zero => exact ⟨fun _ _ _ _ _ _ _ _ _ _ _ hq => cw_no hq, fun _ _ _ _ _ _ _ _ _ _ _ hq => cw_no hq⟩
    | succ k ih =>
      obtain ⟨ih_0, ih_1⟩ := ih
      refine ⟨?_, ?_⟩
      · intro x2 r0 r1 z H locs ls hr0 hr1 hM hl hq
        have hq : cm_X3_meets_0 vl K (c_X3_meets vl K k) x2 r0 r1 z = some (r, z1) := hq
        unfold cm_X3_meets_0 at hq
        refine lv_iconst (v := 0) hx hb dcX3_meets_0 (by decide) ?_
        refine lv_istore_n (lv' := [(2, .int 0), (0, .ref (u r0)), (1, .ref (u r1))]) hx hb dcX3_meets_1 rfl hl (by decide) rfl (fun ls hl => ?_)
        exact ih_1 0 r0 r1 z H locs ls hr0 hr1 hM (lv_sub hl [1, 2, 0] rfl) hq
      · intro x2 r0 r1 z H locs ls hr0 hr1 hM hl hq
        have hq : cm_X3_meets_1 vl K (c_X3_meets vl K k) x2 r0 r1 z = some (r, z1) := hq
        unfold cm_X3_meets_1 at hq
        refine lv_iload_n hx hb dcX3_meets_2 rfl (lv_at hl 2 rfl) ?_
        refine lv_aload_n hx hb dcX3_meets_3 rfl (lv_at hl 0 rfl) ?_
        refine vgX3_37 hx hb hT hown hK hM hr0 hq dcX3_meets_4 (fun v1 hq => ?_)
        refine lv_icmp_ge (tgt := 27) hx hb dcX3_meets_7 (by decide) (fun hc => ?_) (fun hc => ?_)
        · have hq := tw_it hq hc
          refine lv_iconst (v := 0) hx hb dcX3_meets_27 (by decide) ?_
          obtain ⟨hz, hq⟩ := tw_gZ hq
          exact cw_zret hx hb hr hlocks hM hz hq hQQ dcX3_meets_28
        · have hq := tw_if hq hc
          refine lv_aload_n hx hb dcX3_meets_10 rfl (lv_at hl 1 rfl) ?_
          refine lv_aload_n hx hb dcX3_meets_11 rfl (lv_at hl 0 rfl) ?_
          refine lv_iload_n hx hb dcX3_meets_12 rfl (lv_at hl 2 rfl) ?_
          obtain ⟨v3, z2, hcq, hq⟩ := tw_cl1 hq
          refine uw_cali hU hM (va_runV (As := [.ref (u r0), .int x2]) (rest := []) ⟨hx, hb, hml, hown, hts⟩ (kc_X3_find l D q vl u hU.1 K r1 r0 x2 hr1 hr0 z z2 v3 hcq) (cwV 2 hts (tw_gV wC_good xq_335 xq_311 xq_312 xq_313 xq_314) rfl rfl rfl cdd_X3_find ⟨(Nat.le_of_ble_eq_true rfl), (Nat.le_of_ble_eq_true rfl)⟩) (cw_preV hK hM (co_X3 hr1) rfl) rfl rfl hl.1 rfl (lv_room (Nat.le_of_ble_eq_true rfl)) dcX3_meets_13 ⟨(Nat.le_of_ble_eq_true rfl), (Nat.le_of_ble_eq_true rfl)⟩) (fun H locs hM => ?_)
          refine lv_if_lt (tgt := 21) hx hb dcX3_meets_16 (by decide) (fun hc => ?_) (fun hc => ?_)
          · have hq := tw_it hq hc
            refine lv_iinc (v := (x2 + 1)) (lv' := [(2, .int (x2 + 1)), (0, .ref (u r0)), (1, .ref (u r1))]) hx hb dcX3_meets_21 hl (k := 2) rfl rfl (by decide) rfl (fun ls hl => ?_)
            refine lv_goto (tgt := 2) hx hb dcX3_meets_24 (by decide) ?_
            exact ih_1 (x2 + 1) r0 r1 z2 H locs ls hr0 hr1 hM (lv_sub hl [1, 2, 0] rfl) hq
          · have hq := tw_if hq hc
            refine lv_iconst (v := 1) hx hb dcX3_meets_19 (by decide) ?_
            obtain ⟨hz, hq⟩ := tw_gZ hq
            exact cw_zret hx hb hr hlocks hM hz hq hQQ dcX3_meets_20
  exact (key K).1 0 r0 r1 z s.heap [] ls hr0 hr1 hM (lv_sub hl [0, 1] rfl) hq
theorem dcX4_endOf_0 : decode cX4_endOf 0 = .ok (.iload_n 1, 1) := by decide +kernel
theorem dcX4_endOf_1 : decode cX4_endOf 1 = .ok (.iconst 1, 1) := by decide +kernel
theorem dcX4_endOf_2 : decode cX4_endOf 2 = .ok (.iand, 1) := by decide +kernel
theorem dcX4_endOf_3 : decode cX4_endOf 3 = .ok (.ifCond .ne 14, 3) := by decide +kernel
theorem dcX4_endOf_6 : decode cX4_endOf 6 = .ok (.aload_n 0, 1) := by decide +kernel
theorem dcX4_endOf_7 : decode cX4_endOf 7 = .ok (.getfield 34, 3) := by decide +kernel
theorem dcX4_endOf_10 : decode cX4_endOf 10 = .ok (.iload_n 1, 1) := by decide +kernel
theorem dcX4_endOf_11 : decode cX4_endOf 11 = .ok (.iconst 1, 1) := by decide +kernel
theorem dcX4_endOf_12 : decode cX4_endOf 12 = .ok (.ishr, 1) := by decide +kernel
theorem dcX4_endOf_13 : decode cX4_endOf 13 = .ok (.iaload, 1) := by decide +kernel
theorem dcX4_endOf_14 : decode cX4_endOf 14 = .ok (.goto 6, 3) := by decide +kernel
theorem dcX4_endOf_17 : decode cX4_endOf 17 = .ok (.iload_n 1, 1) := by decide +kernel
theorem dcX4_endOf_18 : decode cX4_endOf 18 = .ok (.iconst 1, 1) := by decide +kernel
theorem dcX4_endOf_19 : decode cX4_endOf 19 = .ok (.ishr, 1) := by decide +kernel
theorem dcX4_endOf_20 : decode cX4_endOf 20 = .ok (.ireturn, 1) := by decide +kernel
def cm_X4_endOf_0 (vl : Nat → Nat) (K : Nat) (x1 : Int32) (r0 : Nat) (z : ow_MS) : Option (Int32 × ow_MS) :=
 (if (x1 &&& 1) = 0 then crI (cX vl) z (r0 + 1) ((x1 : Int32) >>> ((1 : Int32) &&& 31)) fun v1 => some (v1, z)
 else some (((x1 : Int32) >>> ((1 : Int32) &&& 31)), z))
def ce_X4_endOf (vl : Nat → Nat) (K : Nat) (r0 : Nat) (x1 : Int32) (z : ow_MS) : Option (Int32 × ow_MS) := cm_X4_endOf_0 vl K x1 r0 z
abbrev wc_X4_endOf : List Cond := .code yX4_endOf cX4_endOf 2 (some .int) :: wC
theorem cdd_X4_endOf : yX4_endOf.cls ≠ "java/lang/invoke/MethodHandle" ∧ yX4_endOf.cls ≠ "java/lang/invoke/VarHandle" ∧ (parseMethodDescriptor yX4_endOf.desc).map (fun d => d.parameters.length) = some 2 := by decide +kernel
set_option maxHeartbeats 4000000 in
set_option maxRecDepth 100000 in
theorem kc_X4_endOf (l : Launch) (D : va_G) (q : Nat → ClassId) (vl u : Nat → Nat) (hU0 : tw_inj (cX vl) u) (K : Nat) (r0 : Nat) (x1 : Int32) (hr0 : cw_X7 r0) (z z1 : ow_MS) (r : Int32) (hq : ce_X4_endOf vl K r0 x1 z = some (r, z1)) : Met l yX4_endOf wc_X4_endOf ({ frames := 0, cells := 0, slots := 0, locals := 0 } : Room) (va_Pc [.ref (u r0), .int x1] (cw_pre D q vl u z)) (va_Qi (fun x (_ : Unit) => x = r) (fun _ t => va_P D vwCl (uw (cX vl) q u z1) t.heap) (tw_A (cX vl) u)) 0 0 (tw_A (cX vl) u) := by
  refine Met.ofW (cc := cX4_endOf) (maxL := 2) (ret := (some .int)) (by decide) rfl ?_
  intro p e s m args below meth c s₁ B hml hv
  obtain ⟨rfl, hP, hK⟩ := hv
  have hx := B.exec
  have hb := B.bytes
  have hr := B.returns
  have hts := atoms_spec (ws := wc_X4_endOf) B.pre
  have hT : ∀ w ∈ wC, w.before ([.ref (u r0), .int x1] : List Value).toArray s = true := fun w h => hts w (List.mem_cons_of_mem _ h)
  have hown : s.vm.findClass RX4 = some m.cls := findClass_of_methodNamed B.named
  have hlocks := B.notSynchronized
  have hU : uw_inj (cX vl) u (tw_A (cX vl) u) := ⟨hU0, fun h hh => ⟨h, hh, rfl⟩⟩
  have hM : uw_M D vwCl (cX vl) q (tw_A (cX vl) u) s.heap u z s.heap [] := ⟨hP, va_S.rf⟩
  have hl := lv_entry ([.ref (u r0), .int x1]) (n := 2) (Nat.le_of_ble_eq_true rfl)
  rw [lg_entry_eq]
  generalize (lg_sl ([.ref (u r0), .int x1]) ++ List.replicate (2 - (lg_sl ([.ref (u r0), .int x1])).length) Slot.unset).toArray = ls at hl ⊢
  have hl : lv_has ls 2 [(0, .ref (u r0)), (1, .int x1)] := hl
  refine ow_named (fun QQ hQQ => ?_)
  generalize ([.ref (u r0), .int x1] : List Value).toArray = args at hts hT hQQ ⊢
  have hq : cm_X4_endOf_0 vl K x1 r0 z = some (r, z1) := hq
  unfold cm_X4_endOf_0 at hq
  suffices key : ∀ (H : Heap) (locs : List Loc), uw_M D vwCl (cX vl) q (tw_A (cX vl) u) s.heap u z H locs → W p l e ({ frames := 0, cells := 0, slots := 0, locals := 0 } : Room) s m args below meth c H locs 0 0 QQ (F0 m 0 ls []) from key s.heap [] hM
  intro H locs hM
  refine lv_iload_n hx hb dcX4_endOf_0 rfl (lv_at hl 1 rfl) ?_
  refine lv_iconst (v := 1) hx hb dcX4_endOf_1 (by decide) ?_
  refine lv_iand hx hb dcX4_endOf_2 ?_
  refine lv_if_ne (tgt := 17) hx hb dcX4_endOf_3 (by decide) (fun hc => ?_) (fun hc => ?_)
  · have hq := tw_if hq hc
    refine lv_iload_n hx hb dcX4_endOf_17 rfl (lv_at hl 1 rfl) ?_
    refine lv_iconst (v := 1) hx hb dcX4_endOf_18 (by decide) ?_
    refine lv_ishr hx hb dcX4_endOf_19 ?_
    exact cw_iret hx hb hr hlocks hM hq hQQ dcX4_endOf_20
  · have hq := tw_it hq hc
    refine lv_aload_n hx hb dcX4_endOf_6 rfl (lv_at hl 0 rfl) ?_
    refine vgX4_34 hx hb hT hown hK hM hr0 dcX4_endOf_7 ?_
    refine lv_iload_n hx hb dcX4_endOf_10 rfl (lv_at hl 1 rfl) ?_
    refine lv_iconst (v := 1) hx hb dcX4_endOf_11 (by decide) ?_
    refine lv_ishr hx hb dcX4_endOf_12 ?_
    refine uw_iald cX_ok hx hb hK hM (cr_X7_0 hr0) hq dcX4_endOf_13 (fun v1 hq => ?_)
    refine lv_goto (tgt := 20) hx hb dcX4_endOf_14 (by decide) ?_
    exact cw_iret hx hb hr hlocks hM hq hQQ dcX4_endOf_20
theorem dcX4_onward_0 : decode cX4_onward 0 = .ok (.iload_n 1, 1) := dw_at cX4_onward_k0 (p := 0) rfl (by decide +kernel)
theorem dcX4_onward_1 : decode cX4_onward 1 = .ok (.iconst 1, 1) := dw_at cX4_onward_k0 (p := 1) rfl (by decide +kernel)
theorem dcX4_onward_2 : decode cX4_onward 2 = .ok (.iand, 1) := dw_at cX4_onward_k0 (p := 2) rfl (by decide +kernel)
theorem dcX4_onward_3 : decode cX4_onward 3 = .ok (.ifCond .ne 7, 3) := dw_at cX4_onward_k0 (p := 3) rfl (by decide +kernel)
theorem dcX4_onward_6 : decode cX4_onward 6 = .ok (.iconst 1, 1) := dw_at cX4_onward_k0 (p := 6) rfl (by decide +kernel)
theorem dcX4_onward_7 : decode cX4_onward 7 = .ok (.goto 4, 3) := dw_at cX4_onward_k0 (p := 7) rfl (by decide +kernel)
theorem dcX4_onward_10 : decode cX4_onward 10 = .ok (.iconst 0, 1) := dw_at cX4_onward_k0 (p := 10) rfl (by decide +kernel)
theorem dcX4_onward_11 : decode cX4_onward 11 = .ok (.istore_n 2, 1) := dw_at cX4_onward_k0 (p := 11) rfl (by decide +kernel)
theorem dcX4_onward_12 : decode cX4_onward 12 = .ok (.iload_n 2, 1) := dw_at cX4_onward_k0 (p := 12) rfl (by decide +kernel)
theorem dcX4_onward_13 : decode cX4_onward 13 = .ok (.ifCond .eq 14, 3) := dw_at cX4_onward_k0 (p := 13) rfl (by decide +kernel)
theorem dcX4_onward_16 : decode cX4_onward 16 = .ok (.aload_n 0, 1) := dw_at cX4_onward_k0 (p := 16) rfl (by decide +kernel)
theorem dcX4_onward_17 : decode cX4_onward 17 = .ok (.getfield 34, 3) := dw_at cX4_onward_k0 (p := 17) rfl (by decide +kernel)
theorem dcX4_onward_20 : decode cX4_onward 20 = .ok (.iload_n 1, 1) := dw_at cX4_onward_k0 (p := 20) rfl (by decide +kernel)
theorem dcX4_onward_21 : decode cX4_onward 21 = .ok (.iconst 1, 1) := dw_at cX4_onward_k0 (p := 21) rfl (by decide +kernel)
theorem dcX4_onward_22 : decode cX4_onward 22 = .ok (.ishr, 1) := dw_at cX4_onward_k0 (p := 22) rfl (by decide +kernel)
theorem dcX4_onward_23 : decode cX4_onward 23 = .ok (.iaload, 1) := dw_at cX4_onward_k0 (p := 23) rfl (by decide +kernel)
theorem dcX4_onward_24 : decode cX4_onward 24 = .ok (.goto 6, 3) := dw_at cX4_onward_k1 (p := 0) rfl (by decide +kernel)
theorem dcX4_onward_27 : decode cX4_onward 27 = .ok (.iload_n 1, 1) := dw_at cX4_onward_k1 (p := 3) rfl (by decide +kernel)
theorem dcX4_onward_28 : decode cX4_onward 28 = .ok (.iconst 1, 1) := dw_at cX4_onward_k1 (p := 4) rfl (by decide +kernel)
theorem dcX4_onward_29 : decode cX4_onward 29 = .ok (.ishr, 1) := dw_at cX4_onward_k1 (p := 5) rfl (by decide +kernel)
theorem dcX4_onward_30 : decode cX4_onward 30 = .ok (.istore_n 3, 1) := dw_at cX4_onward_k1 (p := 6) rfl (by decide +kernel)
theorem dcX4_onward_31 : decode cX4_onward 31 = .ok (.iload_n 3, 1) := dw_at cX4_onward_k1 (p := 7) rfl (by decide +kernel)
theorem dcX4_onward_32 : decode cX4_onward 32 = .ok (.iconst 1, 1) := dw_at cX4_onward_k1 (p := 8) rfl (by decide +kernel)
theorem dcX4_onward_33 : decode cX4_onward 33 = .ok (.ixor, 1) := dw_at cX4_onward_k1 (p := 9) rfl (by decide +kernel)
theorem dcX4_onward_34 : decode cX4_onward 34 = .ok (.istore 4, 2) := dw_at cX4_onward_k1 (p := 10) rfl (by decide +kernel)
theorem dcX4_onward_36 : decode cX4_onward 36 = .ok (.iload_n 3, 1) := dw_at cX4_onward_k1 (p := 12) rfl (by decide +kernel)
theorem dcX4_onward_37 : decode cX4_onward 37 = .ok (.iconst 1, 1) := dw_at cX4_onward_k1 (p := 13) rfl (by decide +kernel)
theorem dcX4_onward_38 : decode cX4_onward 38 = .ok (.iand, 1) := dw_at cX4_onward_k1 (p := 14) rfl (by decide +kernel)
theorem dcX4_onward_39 : decode cX4_onward 39 = .ok (.ifCond .ne 7, 3) := dw_at cX4_onward_k1 (p := 15) rfl (by decide +kernel)
theorem dcX4_onward_42 : decode cX4_onward 42 = .ok (.iconst 1, 1) := dw_at cX4_onward_k1 (p := 18) rfl (by decide +kernel)
theorem dcX4_onward_43 : decode cX4_onward 43 = .ok (.goto 4, 3) := dw_at cX4_onward_k1 (p := 19) rfl (by decide +kernel)
theorem dcX4_onward_46 : decode cX4_onward 46 = .ok (.iconst 0, 1) := dw_at cX4_onward_k1 (p := 22) rfl (by decide +kernel)
theorem dcX4_onward_47 : decode cX4_onward 47 = .ok (.aload_n 0, 1) := dw_at cX4_onward_k1 (p := 23) rfl (by decide +kernel)
theorem dcX4_onward_48 : decode cX4_onward 48 = .ok (.getfield 39, 3) := dw_at cX4_onward_k2 (p := 0) rfl (by decide +kernel)
theorem dcX4_onward_51 : decode cX4_onward 51 = .ok (.iload_n 3, 1) := dw_at cX4_onward_k2 (p := 3) rfl (by decide +kernel)
theorem dcX4_onward_52 : decode cX4_onward 52 = .ok (.iconst 1, 1) := dw_at cX4_onward_k2 (p := 4) rfl (by decide +kernel)
theorem dcX4_onward_53 : decode cX4_onward 53 = .ok (.ishr, 1) := dw_at cX4_onward_k2 (p := 5) rfl (by decide +kernel)
theorem dcX4_onward_54 : decode cX4_onward 54 = .ok (.iaload, 1) := dw_at cX4_onward_k2 (p := 6) rfl (by decide +kernel)
theorem dcX4_onward_55 : decode cX4_onward 55 = .ok (.ifCond .le 7, 3) := dw_at cX4_onward_k2 (p := 7) rfl (by decide +kernel)
theorem dcX4_onward_58 : decode cX4_onward 58 = .ok (.iconst 1, 1) := dw_at cX4_onward_k2 (p := 10) rfl (by decide +kernel)
theorem dcX4_onward_59 : decode cX4_onward 59 = .ok (.goto 4, 3) := dw_at cX4_onward_k2 (p := 11) rfl (by decide +kernel)
theorem dcX4_onward_62 : decode cX4_onward 62 = .ok (.iconst 0, 1) := dw_at cX4_onward_k2 (p := 14) rfl (by decide +kernel)
theorem dcX4_onward_63 : decode cX4_onward 63 = .ok (.if_icmp .ne 7, 3) := dw_at cX4_onward_k2 (p := 15) rfl (by decide +kernel)
theorem dcX4_onward_66 : decode cX4_onward 66 = .ok (.iconst 1, 1) := dw_at cX4_onward_k2 (p := 18) rfl (by decide +kernel)
theorem dcX4_onward_67 : decode cX4_onward 67 = .ok (.goto 4, 3) := dw_at cX4_onward_k2 (p := 19) rfl (by decide +kernel)
theorem dcX4_onward_70 : decode cX4_onward 70 = .ok (.iconst 0, 1) := dw_at cX4_onward_k2 (p := 22) rfl (by decide +kernel)
theorem dcX4_onward_71 : decode cX4_onward 71 = .ok (.istore 5, 2) := dw_at cX4_onward_k2 (p := 23) rfl (by decide +kernel)
theorem dcX4_onward_73 : decode cX4_onward 73 = .ok (.iload 5, 2) := dw_at cX4_onward_k3 (p := 0) rfl (by decide +kernel)
theorem dcX4_onward_75 : decode cX4_onward 75 = .ok (.iload_n 2, 1) := dw_at cX4_onward_k3 (p := 2) rfl (by decide +kernel)
theorem dcX4_onward_76 : decode cX4_onward 76 = .ok (.if_icmp .ne 10, 3) := dw_at cX4_onward_k3 (p := 3) rfl (by decide +kernel)
theorem dcX4_onward_79 : decode cX4_onward 79 = .ok (.iconst 2, 1) := dw_at cX4_onward_k3 (p := 6) rfl (by decide +kernel)
theorem dcX4_onward_80 : decode cX4_onward 80 = .ok (.iload 4, 2) := dw_at cX4_onward_k3 (p := 7) rfl (by decide +kernel)
theorem dcX4_onward_82 : decode cX4_onward 82 = .ok (.imul, 1) := dw_at cX4_onward_k3 (p := 9) rfl (by decide +kernel)
theorem dcX4_onward_83 : decode cX4_onward 83 = .ok (.goto 14, 3) := dw_at cX4_onward_k3 (p := 10) rfl (by decide +kernel)
theorem dcX4_onward_86 : decode cX4_onward 86 = .ok (.iconst 2, 1) := dw_at cX4_onward_k3 (p := 13) rfl (by decide +kernel)
theorem dcX4_onward_87 : decode cX4_onward 87 = .ok (.aload_n 0, 1) := dw_at cX4_onward_k3 (p := 14) rfl (by decide +kernel)
theorem dcX4_onward_88 : decode cX4_onward 88 = .ok (.getfield 42, 3) := dw_at cX4_onward_k3 (p := 15) rfl (by decide +kernel)
theorem dcX4_onward_91 : decode cX4_onward 91 = .ok (.iload 4, 2) := dw_at cX4_onward_k3 (p := 18) rfl (by decide +kernel)
theorem dcX4_onward_93 : decode cX4_onward 93 = .ok (.iaload, 1) := dw_at cX4_onward_k3 (p := 20) rfl (by decide +kernel)
theorem dcX4_onward_94 : decode cX4_onward 94 = .ok (.imul, 1) := dw_at cX4_onward_k3 (p := 21) rfl (by decide +kernel)
theorem dcX4_onward_95 : decode cX4_onward 95 = .ok (.iconst 1, 1) := dw_at cX4_onward_k3 (p := 22) rfl (by decide +kernel)
theorem dcX4_onward_96 : decode cX4_onward 96 = .ok (.iadd, 1) := dw_at cX4_onward_k3 (p := 23) rfl (by decide +kernel)
theorem dcX4_onward_97 : decode cX4_onward 97 = .ok (.ireturn, 1) := dw_at cX4_onward_k3 (p := 24) rfl (by decide +kernel)
def cm_X4_onward_0 (vl : Nat → Nat) (K : Nat) (go : Nat → Int32 → Int32 → Int32 → Int32 → Nat → Int32 → Int32 → ow_MS → Option (Int32 × ow_MS)) (x1 : Int32) (x2 : Int32) (x3 : Int32) (x4 : Int32) (r0 : Nat) (t0 : Int32) (t1 : Int32) (z : ow_MS) : Option (Int32 × ow_MS) :=
 (if (x1 &&& 1) = 0 then go 1 x1 0 0 0 r0 1 0 z
 else go 1 x1 0 0 0 r0 0 0 z)
def cm_X4_onward_1 (vl : Nat → Nat) (K : Nat) (go : Nat → Int32 → Int32 → Int32 → Int32 → Nat → Int32 → Int32 → ow_MS → Option (Int32 × ow_MS)) (x1 : Int32) (x2 : Int32) (x3 : Int32) (x4 : Int32) (r0 : Nat) (t0 : Int32) (t1 : Int32) (z : ow_MS) : Option (Int32 × ow_MS) :=
 (if t0 = 0 then go 2 x1 t0 0 0 r0 ((x1 : Int32) >>> ((1 : Int32) &&& 31)) 0 z
 else crI (cX vl) z (r0 + 1) ((x1 : Int32) >>> ((1 : Int32) &&& 31)) fun v1 => go 2 x1 t0 0 0 r0 v1 0 z)
def cm_X4_onward_2 (vl : Nat → Nat) (K : Nat) (go : Nat → Int32 → Int32 → Int32 → Int32 → Nat → Int32 → Int32 → ow_MS → Option (Int32 × ow_MS)) (x1 : Int32) (x2 : Int32) (x3 : Int32) (x4 : Int32) (r0 : Nat) (t0 : Int32) (t1 : Int32) (z : ow_MS) : Option (Int32 × ow_MS) :=
 (if (t0 &&& 1) = 0 then go 3 x1 x2 t0 (t0 ^^^ 1) r0 1 0 z
 else go 3 x1 x2 t0 (t0 ^^^ 1) r0 0 0 z)
def cm_X4_onward_3 (vl : Nat → Nat) (K : Nat) (go : Nat → Int32 → Int32 → Int32 → Int32 → Nat → Int32 → Int32 → ow_MS → Option (Int32 × ow_MS)) (x1 : Int32) (x2 : Int32) (x3 : Int32) (x4 : Int32) (r0 : Nat) (t0 : Int32) (t1 : Int32) (z : ow_MS) : Option (Int32 × ow_MS) :=
 crI (cX vl) z (r0 + 3) ((x3 : Int32) >>> ((1 : Int32) &&& 31)) fun v2 => (if v2 ≤ 0 then go 4 x1 x2 x3 x4 r0 0 t0 z
 else go 4 x1 x2 x3 x4 r0 1 t0 z)
def cm_X4_onward_4 (vl : Nat → Nat) (K : Nat) (go : Nat → Int32 → Int32 → Int32 → Int32 → Nat → Int32 → Int32 → ow_MS → Option (Int32 × ow_MS)) (x1 : Int32) (x2 : Int32) (x3 : Int32) (x4 : Int32) (r0 : Nat) (t0 : Int32) (t1 : Int32) (z : ow_MS) : Option (Int32 × ow_MS) :=
 (if t1 = t0 then go 5 x1 x2 x3 x4 r0 1 0 z
 else go 5 x1 x2 x3 x4 r0 0 0 z)
def cm_X4_onward_5 (vl : Nat → Nat) (K : Nat) (go : Nat → Int32 → Int32 → Int32 → Int32 → Nat → Int32 → Int32 → ow_MS → Option (Int32 × ow_MS)) (x1 : Int32) (x2 : Int32) (x3 : Int32) (x4 : Int32) (r0 : Nat) (t0 : Int32) (t1 : Int32) (z : ow_MS) : Option (Int32 × ow_MS) :=
 (if t0 = x2 then some ((2 * x4), z)
 else crI (cX vl) z (r0 + 2) x4 fun v3 => some (((2 * v3) + 1), z))
def cb_X4_onward (vl : Nat → Nat) (K : Nat) (go : Nat → Int32 → Int32 → Int32 → Int32 → Nat → Int32 → Int32 → ow_MS → Option (Int32 × ow_MS)) (L : Nat) (x1 : Int32) (x2 : Int32) (x3 : Int32) (x4 : Int32) (r0 : Nat) (t0 : Int32) (t1 : Int32) (z : ow_MS) : Option (Int32 × ow_MS) := match L with
  | 0 => cm_X4_onward_0 vl K go x1 x2 x3 x4 r0 t0 t1 z
  | 1 => cm_X4_onward_1 vl K go x1 x2 x3 x4 r0 t0 t1 z
  | 2 => cm_X4_onward_2 vl K go x1 x2 x3 x4 r0 t0 t1 z
  | 3 => cm_X4_onward_3 vl K go x1 x2 x3 x4 r0 t0 t1 z
  | 4 => cm_X4_onward_4 vl K go x1 x2 x3 x4 r0 t0 t1 z
  | 5 => cm_X4_onward_5 vl K go x1 x2 x3 x4 r0 t0 t1 z
  | _ => none
def c_X4_onward (vl : Nat → Nat) (K : Nat) : Nat → Nat → Int32 → Int32 → Int32 → Int32 → Nat → Int32 → Int32 → ow_MS → Option (Int32 × ow_MS)
  | 0 => fun _ _ _ _ _ _ _ _ _ => none
  | k + 1 => cb_X4_onward vl K (c_X4_onward vl K k)
def ce_X4_onward (vl : Nat → Nat) (K : Nat) (r0 : Nat) (x1 : Int32) (z : ow_MS) : Option (Int32 × ow_MS) := c_X4_onward vl K K 0 x1 0 0 0 r0 0 0 z
abbrev wc_X4_onward : List Cond := .code yX4_onward cX4_onward 6 (some .int) :: wC
theorem cdd_X4_onward : yX4_onward.cls ≠ "java/lang/invoke/MethodHandle" ∧ yX4_onward.cls ≠ "java/lang/invoke/VarHandle" ∧ (parseMethodDescriptor yX4_onward.desc).map (fun d => d.parameters.length) = some 2 := by decide +kernel
set_option maxHeartbeats 4000000 in
set_option maxRecDepth 100000 in
theorem kc_X4_onward (l : Launch) (D : va_G) (q : Nat → ClassId) (vl u : Nat → Nat) (hU0 : tw_inj (cX vl) u) (K : Nat) (r0 : Nat) (x1 : Int32) (hr0 : cw_X7 r0) (z z1 : ow_MS) (r : Int32) (hq : ce_X4_onward vl K r0 x1 z = some (r, z1)) : Met l yX4_onward wc_X4_onward ({ frames := 0, cells := 0, slots := 0, locals := 0 } : Room) (va_Pc [.ref (u r0), .int x1] (cw_pre D q vl u z)) (va_Qi (fun x (_ : Unit) => x = r) (fun _ t => va_P D vwCl (uw (cX vl) q u z1) t.heap) (tw_A (cX vl) u)) 0 0 (tw_A (cX vl) u) := by
  refine Met.ofW (cc := cX4_onward) (maxL := 6) (ret := (some .int)) (by decide) rfl ?_
  intro p e s m args below meth c s₁ B hml hv
  obtain ⟨rfl, hP, hK⟩ := hv
  have hx := B.exec
  have hb := B.bytes
  have hr := B.returns
  have hts := atoms_spec (ws := wc_X4_onward) B.pre
  have hT : ∀ w ∈ wC, w.before ([.ref (u r0), .int x1] : List Value).toArray s = true := fun w h => hts w (List.mem_cons_of_mem _ h)
  have hown : s.vm.findClass RX4 = some m.cls := findClass_of_methodNamed B.named
  have hlocks := B.notSynchronized
  have hU : uw_inj (cX vl) u (tw_A (cX vl) u) := ⟨hU0, fun h hh => ⟨h, hh, rfl⟩⟩
  have hM : uw_M D vwCl (cX vl) q (tw_A (cX vl) u) s.heap u z s.heap [] := ⟨hP, va_S.rf⟩
  have hl := lv_entry ([.ref (u r0), .int x1]) (n := 6) (Nat.le_of_ble_eq_true rfl)
  rw [lg_entry_eq]
  generalize (lg_sl ([.ref (u r0), .int x1]) ++ List.replicate (6 - (lg_sl ([.ref (u r0), .int x1])).length) Slot.unset).toArray = ls at hl ⊢
  have hl : lv_has ls 6 [(0, .ref (u r0)), (1, .int x1)] := hl
  refine ow_named (fun QQ hQQ => ?_)
  generalize ([.ref (u r0), .int x1] : List Value).toArray = args at hts hT hQQ ⊢
  have key : ∀ k : Nat, (∀ (x1 : Int32) (x2 : Int32) (x3 : Int32) (x4 : Int32) (r0 : Nat) (t0 : Int32) (t1 : Int32) (z : ow_MS) (H : Heap) (locs : List Loc) (ls : Array Slot), cw_X7 r0 → uw_M D vwCl (cX vl) q (tw_A (cX vl) u) s.heap u z H locs → lv_has ls 6 [(0, .ref (u r0)), (1, .int x1)] → c_X4_onward vl K k 0 x1 x2 x3 x4 r0 t0 t1 z = some (r, z1) → W p l e ({ frames := 0, cells := 0, slots := 0, locals := 0 } : Room) s m args below meth c H locs 0 0 QQ (F0 m 0 ls [])) ∧ (∀ (x1 : Int32) (x2 : Int32) (x3 : Int32) (x4 : Int32) (r0 : Nat) (t0 : Int32) (t1 : Int32) (z : ow_MS) (H : Heap) (locs : List Loc) (ls : Array Slot), cw_X7 r0 → uw_M D vwCl (cX vl) q (tw_A (cX vl) u) s.heap u z H locs → lv_has ls 6 [(0, .ref (u r0)), (1, .int x1)] → c_X4_onward vl K k 1 x1 x2 x3 x4 r0 t0 t1 z = some (r, z1) → W p l e ({ frames := 0, cells := 0, slots := 0, locals := 0 } : Room) s m args below meth c H locs 0 0 QQ (F0 m 11 ls [.int t0])) ∧ (∀ (x1 : Int32) (x2 : Int32) (x3 : Int32) (x4 : Int32) (r0 : Nat) (t0 : Int32) (t1 : Int32) (z : ow_MS) (H : Heap) (locs : List Loc) (ls : Array Slot), cw_X7 r0 → uw_M D vwCl (cX vl) q (tw_A (cX vl) u) s.heap u z H locs → lv_has ls 6 [(0, .ref (u r0)), (1, .int x1), (2, .int x2)] → c_X4_onward vl K k 2 x1 x2 x3 x4 r0 t0 t1 z = some (r, z1) → W p l e ({ frames := 0, cells := 0, slots := 0, locals := 0 } : Room) s m args below meth c H locs 0 0 QQ (F0 m 30 ls [.int t0])) ∧ (∀ (x1 : Int32) (x2 : Int32) (x3 : Int32) (x4 : Int32) (r0 : Nat) (t0 : Int32) (t1 : Int32) (z : ow_MS) (H : Heap) (locs : List Loc) (ls : Array Slot), cw_X7 r0 → uw_M D vwCl (cX vl) q (tw_A (cX vl) u) s.heap u z H locs → lv_has ls 6 [(0, .ref (u r0)), (1, .int x1), (2, .int x2), (3, .int x3), (4, .int x4)] → c_X4_onward vl K k 3 x1 x2 x3 x4 r0 t0 t1 z = some (r, z1) → W p l e ({ frames := 0, cells := 0, slots := 0, locals := 0 } : Room) s m args below meth c H locs 0 0 QQ (F0 m 47 ls [.int t0])) ∧ (∀ (x1 : Int32) (x2 : Int32) (x3 : Int32) (x4 : Int32) (r0 : Nat) (t0 : Int32) (t1 : Int32) (z : ow_MS) (H : Heap) (locs : List Loc) (ls : Array Slot), cw_X7 r0 → uw_M D vwCl (cX vl) q (tw_A (cX vl) u) s.heap u z H locs → lv_has ls 6 [(0, .ref (u r0)), (1, .int x1), (2, .int x2), (3, .int x3), (4, .int x4)] → c_X4_onward vl K k 4 x1 x2 x3 x4 r0 t0 t1 z = some (r, z1) → W p l e ({ frames := 0, cells := 0, slots := 0, locals := 0 } : Room) s m args below meth c H locs 0 0 QQ (F0 m 63 ls [.int t0, .int t1])) ∧ (∀ (x1 : Int32) (x2 : Int32) (x3 : Int32) (x4 : Int32) (r0 : Nat) (t0 : Int32) (t1 : Int32) (z : ow_MS) (H : Heap) (locs : List Loc) (ls : Array Slot), cw_X7 r0 → uw_M D vwCl (cX vl) q (tw_A (cX vl) u) s.heap u z H locs → lv_has ls 6 [(0, .ref (u r0)), (1, .int x1), (2, .int x2), (3, .int x3), (4, .int x4)] → c_X4_onward vl K k 5 x1 x2 x3 x4 r0 t0 t1 z = some (r, z1) → W p l e ({ frames := 0, cells := 0, slots := 0, locals := 0 } : Room) s m args below meth c H locs 0 0 QQ (F0 m 71 ls [.int t0])) := by
    intro k
    induction k with
    | zero => exact ⟨fun _ _ _ _ _ _ _ _ _ _ _ _ _ _ hq => cw_no hq, fun _ _ _ _ _ _ _ _ _ _ _ _ _ _ hq => cw_no hq, fun _ _ _ _ _ _ _ _ _ _ _ _ _ _ hq => cw_no hq, fun _ _ _ _ _ _ _ _ _ _ _ _ _ _ hq => cw_no hq, fun _ _ _ _ _ _ _ _ _ _ _ _ _ _ hq => cw_no hq, fun _ _ _ _ _ _ _ _ _ _ _ _ _ _ hq => cw_no hq⟩
    | succ k ih =>
      obtain ⟨ih_0, ih_1, ih_2, ih_3, ih_4, ih_5⟩ := ih
      refine ⟨?_, ?_, ?_, ?_, ?_, ?_⟩
      · intro x1 x2 x3 x4 r0 t0 t1 z H locs ls hr0 hM hl hq
        have hq : cm_X4_onward_0 vl K (c_X4_onward vl K k) x1 x2 x3 x4 r0 t0 t1 z = some (r, z1) := hq
        unfold cm_X4_onward_0 at hq
        refine lv_iload_n hx hb dcX4_onward_0 rfl (lv_at hl 1 rfl) ?_
        refine lv_iconst (v := 1) hx hb dcX4_onward_1 (by decide) ?_
        refine lv_iand hx hb dcX4_onward_2 ?_
        refine lv_if_ne (tgt := 10) hx hb dcX4_onward_3 (by decide) (fun hc => ?_) (fun hc => ?_)
        · have hq := tw_if hq hc
          refine lv_iconst (v := 0) hx hb dcX4_onward_10 (by decide) ?_
          exact ih_1 x1 0 0 0 r0 0 0 z H locs ls hr0 hM (lv_sub hl [0, 1] rfl) hq
        · have hq := tw_it hq hc
          refine lv_iconst (v := 1) hx hb dcX4_onward_6 (by decide) ?_
          refine lv_goto (tgt := 11) hx hb dcX4_onward_7 (by decide) ?_
          exact ih_1 x1 0 0 0 r0 1 0 z H locs ls hr0 hM (lv_sub hl [0, 1] rfl) hq
      · intro x1 x2 x3 x4 r0 t0 t1 z H locs ls hr0 hM hl hq
        have hq : cm_X4_onward_1 vl K (c_X4_onward vl K k) x1 x2 x3 x4 r0 t0 t1 z = some (r, z1) := hq
        unfold cm_X4_onward_1 at hq
        refine lv_istore_n (lv' := [(2, .int t0), (0, .ref (u r0)), (1, .int x1)]) hx hb dcX4_onward_11 rfl hl (by decide) rfl (fun ls hl => ?_)
        refine lv_iload_n hx hb dcX4_onward_12 rfl (lv_at hl 0 rfl) ?_
        refine lv_if_eq (tgt := 27) hx hb dcX4_onward_13 (by decide) (fun hc => ?_) (fun hc => ?_)
        · have hq := tw_it hq hc
          refine lv_iload_n hx hb dcX4_onward_27 rfl (lv_at hl 2 rfl) ?_
          refine lv_iconst (v := 1) hx hb dcX4_onward_28 (by decide) ?_
          refine lv_ishr hx hb dcX4_onward_29 ?_
          exact ih_2 x1 t0 0 0 r0 ((x1 : Int32) >>> ((1 : Int32) &&& 31)) 0 z H locs ls hr0 hM (lv_sub hl [1, 2, 0] rfl) hq
        · have hq := tw_if hq hc
          refine lv_aload_n hx hb dcX4_onward_16 rfl (lv_at hl 1 rfl) ?_
          refine vgX4_34 hx hb hT hown hK hM hr0 dcX4_onward_17 ?_
          refine lv_iload_n hx hb dcX4_onward_20 rfl (lv_at hl 2 rfl) ?_
          refine lv_iconst (v := 1) hx hb dcX4_onward_21 (by decide) ?_
          refine lv_ishr hx hb dcX4_onward_22 ?_
          refine uw_iald cX_ok hx hb hK hM (cr_X7_0 hr0) hq dcX4_onward_23 (fun v1 hq => ?_)
          refine lv_goto (tgt := 30) hx hb dcX4_onward_24 (by decide) ?_
          exact ih_2 x1 t0 0 0 r0 v1 0 z H locs ls hr0 hM (lv_sub hl [1, 2, 0] rfl) hq
      · intro x1 x2 x3 x4 r0 t0 t1 z H locs ls hr0 hM hl hq
        have hq : cm_X4_onward_2 vl K (c_X4_onward vl K k) x1 x2 x3 x4 r0 t0 t1 z = some (r, z1) := hq
        unfold cm_X4_onward_2 at hq
        refine lv_istore_n (lv' := [(3, .int t0), (0, .ref (u r0)), (1, .int x1), (2, .int x2)]) hx hb dcX4_onward_30 rfl hl (by decide) rfl (fun ls hl => ?_)
        refine lv_iload_n hx hb dcX4_onward_31 rfl (lv_at hl 0 rfl) ?_
        refine lv_iconst (v := 1) hx hb dcX4_onward_32 (by decide) ?_
        refine lv_ixor hx hb dcX4_onward_33 ?_
        refine lv_istore (lv' := [(4, .int (t0 ^^^ 1)), (3, .int t0), (0, .ref (u r0)), (1, .int x1), (2, .int x2)]) hx hb dcX4_onward_34 hl (by decide) rfl (fun ls hl => ?_)
        refine lv_iload_n hx hb dcX4_onward_36 rfl (lv_at hl 1 rfl) ?_
        refine lv_iconst (v := 1) hx hb dcX4_onward_37 (by decide) ?_
        refine lv_iand hx hb dcX4_onward_38 ?_
        refine lv_if_ne (tgt := 46) hx hb dcX4_onward_39 (by decide) (fun hc => ?_) (fun hc => ?_)
        · have hq := tw_if hq hc
          refine lv_iconst (v := 0) hx hb dcX4_onward_46 (by decide) ?_
          exact ih_3 x1 x2 t0 (t0 ^^^ 1) r0 0 0 z H locs ls hr0 hM (lv_sub hl [2, 3, 4, 1, 0] rfl) hq
        · have hq := tw_it hq hc
          refine lv_iconst (v := 1) hx hb dcX4_onward_42 (by decide) ?_
          refine lv_goto (tgt := 47) hx hb dcX4_onward_43 (by decide) ?_
          exact ih_3 x1 x2 t0 (t0 ^^^ 1) r0 1 0 z H locs ls hr0 hM (lv_sub hl [2, 3, 4, 1, 0] rfl) hq
      · intro x1 x2 x3 x4 r0 t0 t1 z H locs ls hr0 hM hl hq
        have hq : cm_X4_onward_3 vl K (c_X4_onward vl K k) x1 x2 x3 x4 r0 t0 t1 z = some (r, z1) := hq
        unfold cm_X4_onward_3 at hq
        refine lv_aload_n hx hb dcX4_onward_47 rfl (lv_at hl 0 rfl) ?_
        refine vgX4_39 hx hb hT hown hK hM hr0 dcX4_onward_48 ?_
        refine lv_iload_n hx hb dcX4_onward_51 rfl (lv_at hl 3 rfl) ?_
        refine lv_iconst (v := 1) hx hb dcX4_onward_52 (by decide) ?_
        refine lv_ishr hx hb dcX4_onward_53 ?_
        refine uw_iald cX_ok hx hb hK hM (cr_X7_2 hr0) hq dcX4_onward_54 (fun v2 hq => ?_)
        refine lv_if_le (tgt := 62) hx hb dcX4_onward_55 (by decide) (fun hc => ?_) (fun hc => ?_)
        · have hq := tw_it hq hc
          refine lv_iconst (v := 0) hx hb dcX4_onward_62 (by decide) ?_
          exact ih_4 x1 x2 x3 x4 r0 0 t0 z H locs ls hr0 hM (lv_sub hl [0, 1, 2, 3, 4] rfl) hq
        · have hq := tw_if hq hc
          refine lv_iconst (v := 1) hx hb dcX4_onward_58 (by decide) ?_
          refine lv_goto (tgt := 63) hx hb dcX4_onward_59 (by decide) ?_
          exact ih_4 x1 x2 x3 x4 r0 1 t0 z H locs ls hr0 hM (lv_sub hl [0, 1, 2, 3, 4] rfl) hq
      · intro x1 x2 x3 x4 r0 t0 t1 z H locs ls hr0 hM hl hq
        have hq : cm_X4_onward_4 vl K (c_X4_onward vl K k) x1 x2 x3 x4 r0 t0 t1 z = some (r, z1) := hq
        unfold cm_X4_onward_4 at hq
        refine lv_icmp_ne (tgt := 70) hx hb dcX4_onward_63 (by decide) (fun hc => ?_) (fun hc => ?_)
        · have hq := tw_if hq hc
          refine lv_iconst (v := 0) hx hb dcX4_onward_70 (by decide) ?_
          exact ih_5 x1 x2 x3 x4 r0 0 0 z H locs ls hr0 hM (lv_sub hl [0, 1, 2, 3, 4] rfl) hq
        · have hq := tw_it hq hc
          refine lv_iconst (v := 1) hx hb dcX4_onward_66 (by decide) ?_
          refine lv_goto (tgt := 71) hx hb dcX4_onward_67 (by decide) ?_
          exact ih_5 x1 x2 x3 x4 r0 1 0 z H locs ls hr0 hM (lv_sub hl [0, 1, 2, 3, 4] rfl) hq
      · intro x1 x2 x3 x4 r0 t0 t1 z H locs ls hr0 hM hl hq
        have hq : cm_X4_onward_5 vl K (c_X4_onward vl K k) x1 x2 x3 x4 r0 t0 t1 z = some (r, z1) := hq
        unfold cm_X4_onward_5 at hq
        refine lv_istore (lv' := [(5, .int t0), (0, .ref (u r0)), (1, .int x1), (2, .int x2), (3, .int x3), (4, .int x4)]) hx hb dcX4_onward_71 hl (by decide) rfl (fun ls hl => ?_)
        refine lv_iload hx hb dcX4_onward_73 (lv_at hl 0 rfl) ?_
        refine lv_iload_n hx hb dcX4_onward_75 rfl (lv_at hl 3 rfl) ?_
        refine lv_icmp_ne (tgt := 86) hx hb dcX4_onward_76 (by decide) (fun hc => ?_) (fun hc => ?_)
        · have hq := tw_if hq hc
          refine lv_iconst (v := 2) hx hb dcX4_onward_86 (by decide) ?_
          refine lv_aload_n hx hb dcX4_onward_87 rfl (lv_at hl 1 rfl) ?_
          refine vgX4_42 hx hb hT hown hK hM hr0 dcX4_onward_88 ?_
          refine lv_iload hx hb dcX4_onward_91 (lv_at hl 5 rfl) ?_
          refine uw_iald cX_ok hx hb hK hM (cr_X7_1 hr0) hq dcX4_onward_93 (fun v3 hq => ?_)
          refine lv_imul hx hb dcX4_onward_94 ?_
          refine lv_iconst (v := 1) hx hb dcX4_onward_95 (by decide) ?_
          refine lv_iadd hx hb dcX4_onward_96 ?_
          exact cw_iret hx hb hr hlocks hM hq hQQ dcX4_onward_97
        · have hq := tw_it hq hc
          refine lv_iconst (v := 2) hx hb dcX4_onward_79 (by decide) ?_
          refine lv_iload hx hb dcX4_onward_80 (lv_at hl 5 rfl) ?_
          refine lv_imul hx hb dcX4_onward_82 ?_
          refine lv_goto (tgt := 97) hx hb dcX4_onward_83 (by decide) ?_
          exact cw_iret hx hb hr hlocks hM hq hQQ dcX4_onward_97
  exact (key K).1 x1 0 0 0 r0 0 0 z s.heap [] ls hr0 hM (lv_sub hl [0, 1] rfl) hq
theorem dcX4_mark_0 : decode cX4_mark 0 = .ok (.iconst 4, 1) := dw_at cX4_mark_k0 (p := 0) rfl (by decide +kernel)
theorem dcX4_mark_1 : decode cX4_mark 1 = .ok (.aload_n 1, 1) := dw_at cX4_mark_k0 (p := 1) rfl (by decide +kernel)
theorem dcX4_mark_2 : decode cX4_mark 2 = .ok (.getfield 45, 3) := dw_at cX4_mark_k0 (p := 2) rfl (by decide +kernel)
theorem dcX4_mark_5 : decode cX4_mark 5 = .ok (.imul, 1) := dw_at cX4_mark_k0 (p := 5) rfl (by decide +kernel)
theorem dcX4_mark_6 : decode cX4_mark 6 = .ok (.istore_n 2, 1) := dw_at cX4_mark_k0 (p := 6) rfl (by decide +kernel)
theorem dcX4_mark_7 : decode cX4_mark 7 = .ok (.aload_n 0, 1) := dw_at cX4_mark_k0 (p := 7) rfl (by decide +kernel)
theorem dcX4_mark_8 : decode cX4_mark 8 = .ok (.getfield 9, 3) := dw_at cX4_mark_k0 (p := 8) rfl (by decide +kernel)
theorem dcX4_mark_11 : decode cX4_mark 11 = .ok (.iconst 0, 1) := dw_at cX4_mark_k0 (p := 11) rfl (by decide +kernel)
theorem dcX4_mark_12 : decode cX4_mark 12 = .ok (.iload_n 2, 1) := dw_at cX4_mark_k0 (p := 12) rfl (by decide +kernel)
theorem dcX4_mark_13 : decode cX4_mark 13 = .ok (.iconst (-1), 1) := dw_at cX4_mark_k0 (p := 13) rfl (by decide +kernel)
theorem dcX4_mark_14 : decode cX4_mark 14 = .ok (.invokestatic 49, 3) := dw_at cX4_mark_k0 (p := 14) rfl (by decide +kernel)
theorem dcX4_mark_17 : decode cX4_mark 17 = .ok (.aload_n 0, 1) := dw_at cX4_mark_k0 (p := 17) rfl (by decide +kernel)
theorem dcX4_mark_18 : decode cX4_mark 18 = .ok (.iconst 0, 1) := dw_at cX4_mark_k0 (p := 18) rfl (by decide +kernel)
theorem dcX4_mark_19 : decode cX4_mark 19 = .ok (.putfield 55, 3) := dw_at cX4_mark_k0 (p := 19) rfl (by decide +kernel)
theorem dcX4_mark_22 : decode cX4_mark 22 = .ok (.iconst 0, 1) := dw_at cX4_mark_k0 (p := 22) rfl (by decide +kernel)
theorem dcX4_mark_23 : decode cX4_mark 23 = .ok (.istore_n 3, 1) := dw_at cX4_mark_k0 (p := 23) rfl (by decide +kernel)
theorem dcX4_mark_24 : decode cX4_mark 24 = .ok (.iload_n 3, 1) := dw_at cX4_mark_k1 (p := 0) rfl (by decide +kernel)
theorem dcX4_mark_25 : decode cX4_mark 25 = .ok (.iload_n 2, 1) := dw_at cX4_mark_k1 (p := 1) rfl (by decide +kernel)
theorem dcX4_mark_26 : decode cX4_mark 26 = .ok (.if_icmp .ge 80, 3) := dw_at cX4_mark_k1 (p := 2) rfl (by decide +kernel)
theorem dcX4_mark_29 : decode cX4_mark 29 = .ok (.aload_n 0, 1) := dw_at cX4_mark_k1 (p := 5) rfl (by decide +kernel)
theorem dcX4_mark_30 : decode cX4_mark 30 = .ok (.getfield 9, 3) := dw_at cX4_mark_k1 (p := 6) rfl (by decide +kernel)
theorem dcX4_mark_33 : decode cX4_mark 33 = .ok (.iload_n 3, 1) := dw_at cX4_mark_k1 (p := 9) rfl (by decide +kernel)
theorem dcX4_mark_34 : decode cX4_mark 34 = .ok (.iaload, 1) := dw_at cX4_mark_k1 (p := 10) rfl (by decide +kernel)
theorem dcX4_mark_35 : decode cX4_mark 35 = .ok (.iconst (-1), 1) := dw_at cX4_mark_k1 (p := 11) rfl (by decide +kernel)
theorem dcX4_mark_36 : decode cX4_mark 36 = .ok (.if_icmp .eq 6, 3) := dw_at cX4_mark_k1 (p := 12) rfl (by decide +kernel)
theorem dcX4_mark_39 : decode cX4_mark 39 = .ok (.goto 61, 3) := dw_at cX4_mark_k1 (p := 15) rfl (by decide +kernel)
theorem dcX4_mark_42 : decode cX4_mark 42 = .ok (.iload_n 3, 1) := dw_at cX4_mark_k1 (p := 18) rfl (by decide +kernel)
theorem dcX4_mark_43 : decode cX4_mark 43 = .ok (.istore 4, 2) := dw_at cX4_mark_k1 (p := 19) rfl (by decide +kernel)
theorem dcX4_mark_45 : decode cX4_mark 45 = .ok (.iconst 0, 1) := dw_at cX4_mark_k1 (p := 21) rfl (by decide +kernel)
theorem dcX4_mark_46 : decode cX4_mark 46 = .ok (.istore 5, 2) := dw_at cX4_mark_k1 (p := 22) rfl (by decide +kernel)
theorem dcX4_mark_48 : decode cX4_mark 48 = .ok (.iload 5, 2) := dw_at cX4_mark_k2 (p := 0) rfl (by decide +kernel)
theorem dcX4_mark_50 : decode cX4_mark 50 = .ok (.iload_n 2, 1) := dw_at cX4_mark_k2 (p := 2) rfl (by decide +kernel)
theorem dcX4_mark_51 : decode cX4_mark 51 = .ok (.if_icmp .ge 39, 3) := dw_at cX4_mark_k2 (p := 3) rfl (by decide +kernel)
theorem dcX4_mark_54 : decode cX4_mark 54 = .ok (.aload_n 0, 1) := dw_at cX4_mark_k2 (p := 6) rfl (by decide +kernel)
theorem dcX4_mark_55 : decode cX4_mark 55 = .ok (.getfield 9, 3) := dw_at cX4_mark_k2 (p := 7) rfl (by decide +kernel)
theorem dcX4_mark_58 : decode cX4_mark 58 = .ok (.iload 4, 2) := dw_at cX4_mark_k2 (p := 10) rfl (by decide +kernel)
theorem dcX4_mark_60 : decode cX4_mark 60 = .ok (.iaload, 1) := dw_at cX4_mark_k2 (p := 12) rfl (by decide +kernel)
theorem dcX4_mark_61 : decode cX4_mark 61 = .ok (.iconst (-1), 1) := dw_at cX4_mark_k2 (p := 13) rfl (by decide +kernel)
theorem dcX4_mark_62 : decode cX4_mark 62 = .ok (.if_icmp .ne 28, 3) := dw_at cX4_mark_k2 (p := 14) rfl (by decide +kernel)
theorem dcX4_mark_65 : decode cX4_mark 65 = .ok (.aload_n 0, 1) := dw_at cX4_mark_k2 (p := 17) rfl (by decide +kernel)
theorem dcX4_mark_66 : decode cX4_mark 66 = .ok (.getfield 9, 3) := dw_at cX4_mark_k2 (p := 18) rfl (by decide +kernel)
theorem dcX4_mark_69 : decode cX4_mark 69 = .ok (.iload 4, 2) := dw_at cX4_mark_k2 (p := 21) rfl (by decide +kernel)
theorem dcX4_mark_71 : decode cX4_mark 71 = .ok (.aload_n 0, 1) := dw_at cX4_mark_k2 (p := 23) rfl (by decide +kernel)
theorem dcX4_mark_72 : decode cX4_mark 72 = .ok (.getfield 55, 3) := dw_at cX4_mark_k3 (p := 0) rfl (by decide +kernel)
theorem dcX4_mark_75 : decode cX4_mark 75 = .ok (.iastore, 1) := dw_at cX4_mark_k3 (p := 3) rfl (by decide +kernel)
theorem dcX4_mark_76 : decode cX4_mark 76 = .ok (.aload_n 1, 1) := dw_at cX4_mark_k3 (p := 4) rfl (by decide +kernel)
theorem dcX4_mark_77 : decode cX4_mark 77 = .ok (.iload 4, 2) := dw_at cX4_mark_k3 (p := 5) rfl (by decide +kernel)
theorem dcX4_mark_79 : decode cX4_mark 79 = .ok (.invokestatic 58, 3) := dw_at cX4_mark_k3 (p := 7) rfl (by decide +kernel)
theorem dcX4_mark_82 : decode cX4_mark 82 = .ok (.istore 4, 2) := dw_at cX4_mark_k3 (p := 10) rfl (by decide +kernel)
theorem dcX4_mark_84 : decode cX4_mark 84 = .ok (.iinc 5 1, 3) := dw_at cX4_mark_k3 (p := 12) rfl (by decide +kernel)
theorem dcX4_mark_87 : decode cX4_mark 87 = .ok (.goto (-39), 3) := dw_at cX4_mark_k3 (p := 15) rfl (by decide +kernel)
theorem dcX4_mark_90 : decode cX4_mark 90 = .ok (.aload_n 0, 1) := dw_at cX4_mark_k3 (p := 18) rfl (by decide +kernel)
theorem dcX4_mark_91 : decode cX4_mark 91 = .ok (.dup, 1) := dw_at cX4_mark_k3 (p := 19) rfl (by decide +kernel)
theorem dcX4_mark_92 : decode cX4_mark 92 = .ok (.getfield 55, 3) := dw_at cX4_mark_k3 (p := 20) rfl (by decide +kernel)
theorem dcX4_mark_95 : decode cX4_mark 95 = .ok (.iconst 1, 1) := dw_at cX4_mark_k3 (p := 23) rfl (by decide +kernel)
theorem dcX4_mark_96 : decode cX4_mark 96 = .ok (.iadd, 1) := dw_at cX4_mark_k4 (p := 0) rfl (by decide +kernel)
theorem dcX4_mark_97 : decode cX4_mark 97 = .ok (.putfield 55, 3) := dw_at cX4_mark_k4 (p := 1) rfl (by decide +kernel)
theorem dcX4_mark_100 : decode cX4_mark 100 = .ok (.iinc 3 1, 3) := dw_at cX4_mark_k4 (p := 4) rfl (by decide +kernel)
theorem dcX4_mark_103 : decode cX4_mark 103 = .ok (.goto (-79), 3) := dw_at cX4_mark_k4 (p := 7) rfl (by decide +kernel)
theorem dcX4_mark_106 : decode cX4_mark 106 = .ok (.return_, 1) := dw_at cX4_mark_k4 (p := 10) rfl (by decide +kernel)
def cm_X4_mark_0 (vl : Nat → Nat) (K : Nat) (go : Nat → Int32 → Int32 → Int32 → Int32 → Nat → Nat → ow_MS → Option ow_MS) (x2 : Int32) (x3 : Int32) (x4 : Int32) (x5 : Int32) (r0 : Nat) (r1 : Nat) (z : ow_MS) : Option ow_MS :=
 rdF z (r1 + 8) fun v1 => cs0 (ce_J7_fill_fda19 vl K (r0 + 1) 0 (4 * v1) (-1) z) fun z2 => wrF z2 (r0 + 2) 0 fun z3 => go 1 (4 * v1) 0 0 0 r0 r1 z3
def cm_X4_mark_1 (vl : Nat → Nat) (K : Nat) (go : Nat → Int32 → Int32 → Int32 → Int32 → Nat → Nat → ow_MS → Option ow_MS) (x2 : Int32) (x3 : Int32) (x4 : Int32) (x5 : Int32) (r0 : Nat) (r1 : Nat) (z : ow_MS) : Option ow_MS :=
 (if x2 ≤ x3 then some z
 else crI (cX vl) z (r0 + 1) x3 fun v4 => (if v4 = (-1) then go 2 x2 x3 x3 0 r0 r1 z
 else go 4 x2 x3 0 0 r0 r1 z))
def cm_X4_mark_2 (vl : Nat → Nat) (K : Nat) (go : Nat → Int32 → Int32 → Int32 → Int32 → Nat → Nat → ow_MS → Option ow_MS) (x2 : Int32) (x3 : Int32) (x4 : Int32) (x5 : Int32) (r0 : Nat) (r1 : Nat) (z : ow_MS) : Option ow_MS :=
 (if x2 ≤ x5 then go 3 x2 x3 x4 x5 r0 r1 z
 else crI (cX vl) z (r0 + 1) x4 fun v5 => (if v5 = (-1) then rdF z (r0 + 2) fun v6 => ctI (cX vl) z (r0 + 1) x4 v6 fun z7 => cs1 (ce_X4_onward vl K r1 x4 z7) fun v9 z8 => go 2 x2 x3 v9 (x5 + 1) r0 r1 z8
 else go 3 x2 x3 x4 x5 r0 r1 z))
def cm_X4_mark_3 (vl : Nat → Nat) (K : Nat) (go : Nat → Int32 → Int32 → Int32 → Int32 → Nat → Nat → ow_MS → Option ow_MS) (x2 : Int32) (x3 : Int32) (x4 : Int32) (x5 : Int32) (r0 : Nat) (r1 : Nat) (z : ow_MS) : Option ow_MS :=
 rdF z (r0 + 2) fun v10 => wrF z (r0 + 2) (v10 + 1) fun z11 => go 4 x2 x3 0 0 r0 r1 z11
def cm_X4_mark_4 (vl : Nat → Nat) (K : Nat) (go : Nat → Int32 → Int32 → Int32 → Int32 → Nat → Nat → ow_MS → Option ow_MS) (x2 : Int32) (x3 : Int32) (x4 : Int32) (x5 : Int32) (r0 : Nat) (r1 : Nat) (z : ow_MS) : Option ow_MS :=
 go 1 x2 (x3 + 1) 0 0 r0 r1 z
def cb_X4_mark (vl : Nat → Nat) (K : Nat) (go : Nat → Int32 → Int32 → Int32 → Int32 → Nat → Nat → ow_MS → Option ow_MS) (L : Nat) (x2 : Int32) (x3 : Int32) (x4 : Int32) (x5 : Int32) (r0 : Nat) (r1 : Nat) (z : ow_MS) : Option ow_MS := match L with
  | 0 => cm_X4_mark_0 vl K go x2 x3 x4 x5 r0 r1 z
  | 1 => cm_X4_mark_1 vl K go x2 x3 x4 x5 r0 r1 z
  | 2 => cm_X4_mark_2 vl K go x2 x3 x4 x5 r0 r1 z
  | 3 => cm_X4_mark_3 vl K go x2 x3 x4 x5 r0 r1 z
  | 4 => cm_X4_mark_4 vl K go x2 x3 x4 x5 r0 r1 z
  | _ => none
def c_X4_mark (vl : Nat → Nat) (K : Nat) : Nat → Nat → Int32 → Int32 → Int32 → Int32 → Nat → Nat → ow_MS → Option ow_MS
  | 0 => fun _ _ _ _ _ _ _ _ => none
  | k + 1 => cb_X4_mark vl K (c_X4_mark vl K k)
def ce_X4_mark (vl : Nat → Nat) (K : Nat) (r0 : Nat) (r1 : Nat) (z : ow_MS) : Option ow_MS := c_X4_mark vl K K 0 0 0 0 0 r0 r1 z
abbrev wc_X4_mark : List Cond := .code yX4_mark cX4_mark 6 none :: wC
theorem cdd_X4_mark : yX4_mark.cls = RX4 ∧ yX4_mark.cls ≠ "java/lang/invoke/MethodHandle" ∧ yX4_mark.cls ≠ "java/lang/invoke/VarHandle" ∧ (parseMethodDescriptor yX4_mark.desc).map (fun d => d.parameters.length) = some 1 := by decide +kernel
set_option maxHeartbeats 4000000 in
set_option maxRecDepth 100000 in
theorem kc_X4_mark (l : Launch) (D : va_G) (q : Nat → ClassId) (vl u : Nat → Nat) (hU0 : tw_inj (cX vl) u) (K : Nat) (r0 : Nat) (r1 : Nat) (hr0 : cw_X4 r0) (hr1 : cw_X7 r1) (z z1 : ow_MS) (hq : ce_X4_mark vl K r0 r1 z = some z1) : Met l yX4_mark wc_X4_mark ({ frames := 2, cells := 0, slots := 0, locals := 46 } : Room) (va_Pc [.ref (u r0), .ref (u r1)] (cw_pre D q vl u z)) (va_Qv (fun (_ : Unit) => True) (fun _ t => va_P D vwCl (uw (cX vl) q u z1) t.heap) (tw_A (cX vl) u)) 0 0 (tw_A (cX vl) u) := by
  refine Met.ofW (cc := cX4_mark) (maxL := 6) (ret := none) (by decide) rfl ?_
  intro p e s m args below meth c s₁ B hml hv
  obtain ⟨rfl, hP, hK⟩ := hv
  have hx := B.exec
  have hb := B.bytes
  have hr := B.returns
  have hts := atoms_spec (ws := wc_X4_mark) B.pre
  have hT : ∀ w ∈ wC, w.before ([.ref (u r0), .ref (u r1)] : List Value).toArray s = true := fun w h => hts w (List.mem_cons_of_mem _ h)
  have hown : s.vm.findClass RX4 = some m.cls := findClass_of_methodNamed B.named
  have hlocks := B.notSynchronized
  have hU : uw_inj (cX vl) u (tw_A (cX vl) u) := ⟨hU0, fun h hh => ⟨h, hh, rfl⟩⟩
  have hM : uw_M D vwCl (cX vl) q (tw_A (cX vl) u) s.heap u z s.heap [] := ⟨hP, va_S.rf⟩
  have hl := lv_entry ([.ref (u r0), .ref (u r1)]) (n := 6) (Nat.le_of_ble_eq_true rfl)
  rw [lg_entry_eq]
  generalize (lg_sl ([.ref (u r0), .ref (u r1)]) ++ List.replicate (6 - (lg_sl ([.ref (u r0), .ref (u r1)])).length) Slot.unset).toArray = ls at hl ⊢
  have hl : lv_has ls 6 [(0, .ref (u r0)), (1, .ref (u r1))] := hl
  refine ow_named (fun QQ hQQ => ?_)
  generalize ([.ref (u r0), .ref (u r1)] : List Value).toArray = args at hts hT hQQ ⊢
  have key : ∀ k : Nat, (∀ (x2 : Int32) (x3 : Int32) (x4 : Int32) (x5 : Int32) (r0 : Nat) (r1 : Nat) (z : ow_MS) (H : Heap) (locs : List Loc) (ls : Array Slot), cw_X4 r0 → cw_X7 r1 → uw_M D vwCl (cX vl) q (tw_A (cX vl) u) s.heap u z H locs → lv_has ls 6 [(0, .ref (u r0)), (1, .ref (u r1))] → c_X4_mark vl K k 0 x2 x3 x4 x5 r0 r1 z = some z1 → W p l e ({ frames := 2, cells := 0, slots := 0, locals := 46 } : Room) s m args below meth c H locs 0 0 QQ (F0 m 0 ls [])) ∧ (∀ (x2 : Int32) (x3 : Int32) (x4 : Int32) (x5 : Int32) (r0 : Nat) (r1 : Nat) (z : ow_MS) (H : Heap) (locs : List Loc) (ls : Array Slot), cw_X4 r0 → cw_X7 r1 → uw_M D vwCl (cX vl) q (tw_A (cX vl) u) s.heap u z H locs → lv_has ls 6 [(0, .ref (u r0)), (1, .ref (u r1)), (2, .int x2), (3, .int x3)] → c_X4_mark vl K k 1 x2 x3 x4 x5 r0 r1 z = some z1 → W p l e ({ frames := 2, cells := 0, slots := 0, locals := 46 } : Room) s m args below meth c H locs 0 0 QQ (F0 m 24 ls [])) ∧ (∀ (x2 : Int32) (x3 : Int32) (x4 : Int32) (x5 : Int32) (r0 : Nat) (r1 : Nat) (z : ow_MS) (H : Heap) (locs : List Loc) (ls : Array Slot), cw_X4 r0 → cw_X7 r1 → uw_M D vwCl (cX vl) q (tw_A (cX vl) u) s.heap u z H locs → lv_has ls 6 [(0, .ref (u r0)), (1, .ref (u r1)), (2, .int x2), (3, .int x3), (4, .int x4), (5, .int x5)] → c_X4_mark vl K k 2 x2 x3 x4 x5 r0 r1 z = some z1 → W p l e ({ frames := 2, cells := 0, slots := 0, locals := 46 } : Room) s m args below meth c H locs 0 0 QQ (F0 m 48 ls [])) ∧ (∀ (x2 : Int32) (x3 : Int32) (x4 : Int32) (x5 : Int32) (r0 : Nat) (r1 : Nat) (z : ow_MS) (H : Heap) (locs : List Loc) (ls : Array Slot), cw_X4 r0 → cw_X7 r1 → uw_M D vwCl (cX vl) q (tw_A (cX vl) u) s.heap u z H locs → lv_has ls 6 [(0, .ref (u r0)), (1, .ref (u r1)), (2, .int x2), (3, .int x3), (4, .int x4), (5, .int x5)] → c_X4_mark vl K k 3 x2 x3 x4 x5 r0 r1 z = some z1 → W p l e ({ frames := 2, cells := 0, slots := 0, locals := 46 } : Room) s m args below meth c H locs 0 0 QQ (F0 m 90 ls [])) ∧ (∀ (x2 : Int32) (x3 : Int32) (x4 : Int32) (x5 : Int32) (r0 : Nat) (r1 : Nat) (z : ow_MS) (H : Heap) (locs : List Loc) (ls : Array Slot), cw_X4 r0 → cw_X7 r1 → uw_M D vwCl (cX vl) q (tw_A (cX vl) u) s.heap u z H locs → lv_has ls 6 [(0, .ref (u r0)), (1, .ref (u r1)), (2, .int x2), (3, .int x3)] → c_X4_mark vl K k 4 x2 x3 x4 x5 r0 r1 z = some z1 → W p l e ({ frames := 2, cells := 0, slots := 0, locals := 46 } : Room) s m args below meth c H locs 0 0 QQ (F0 m 100 ls [])) := by
    intro k
    induction k with
    | zero => exact ⟨fun _ _ _ _ _ _ _ _ _ _ _ _ _ _ hq => cw_no hq, fun _ _ _ _ _ _ _ _ _ _ _ _ _ _ hq => cw_no hq, fun _ _ _ _ _ _ _ _ _ _ _ _ _ _ hq => cw_no hq, fun _ _ _ _ _ _ _ _ _ _ _ _ _ _ hq => cw_no hq, fun _ _ _ _ _ _ _ _ _ _ _ _ _ _ hq => cw_no hq⟩
    | succ k ih =>
      obtain ⟨ih_0, ih_1, ih_2, ih_3, ih_4⟩ := ih
      refine ⟨?_, ?_, ?_, ?_, ?_⟩
      · intro x2 x3 x4 x5 r0 r1 z H locs ls hr0 hr1 hM hl hq
        have hq : cm_X4_mark_0 vl K (c_X4_mark vl K k) x2 x3 x4 x5 r0 r1 z = some z1 := hq
        unfold cm_X4_mark_0 at hq
        refine lv_iconst (v := 4) hx hb dcX4_mark_0 (by decide) ?_
        refine lv_aload_n hx hb dcX4_mark_1 rfl (lv_at hl 1 rfl) ?_
        refine vgX4_45 hx hb hT hown hK hM hr1 hq dcX4_mark_2 (fun v1 hq => ?_)
        refine lv_imul hx hb dcX4_mark_5 ?_
        refine lv_istore_n (lv' := [(2, .int (4 * v1)), (0, .ref (u r0)), (1, .ref (u r1))]) hx hb dcX4_mark_6 rfl hl (by decide) rfl (fun ls hl => ?_)
        refine lv_aload_n hx hb dcX4_mark_7 rfl (lv_at hl 1 rfl) ?_
        refine vgX4_9 hx hb hT hown hK hM hr0 dcX4_mark_8 ?_
        refine lv_iconst (v := 0) hx hb dcX4_mark_11 (by decide) ?_
        refine lv_iload_n hx hb dcX4_mark_12 rfl (lv_at hl 0 rfl) ?_
        refine lv_iconst (v := (-1)) hx hb dcX4_mark_13 (by decide) ?_
        obtain ⟨z2, hcq, hq⟩ := tw_cl0 hq
        refine uw_calv hU hM (va_runS (As := [.ref (u (r0 + 1)), .int 0, .int (4 * v1), .int (-1)]) (rest := []) ⟨hx, hb, hml, hown, hts⟩ (kc_J7_fill_fda19 l D q vl u hU.1 K (r0 + 1) 0 (4 * v1) (-1) (cr_X4_0 hr0) z z2 hcq) (va_cwS 4 hts (tw_gS wC_good xq_347 xq_62 xq_9 xq_63) rfl rfl rfl cdd_J7_fill_fda19 ⟨(Nat.le_of_ble_eq_true rfl), (Nat.le_of_ble_eq_true rfl)⟩) (cw_preS hK hM) rfl rfl hl.1 rfl (lv_room (Nat.le_of_ble_eq_true rfl)) dcX4_mark_14 ⟨(Nat.le_of_ble_eq_true rfl), (Nat.le_of_ble_eq_true rfl)⟩) (fun H locs hM => ?_)
        refine lv_aload_n hx hb dcX4_mark_17 rfl (lv_at hl 1 rfl) ?_
        refine lv_iconst (v := 0) hx hb dcX4_mark_18 (by decide) ?_
        refine vpX4_55 hx hb hT hown hK hM hU hr0 hq dcX4_mark_19 (fun z3 H locs hM hq => ?_)
        refine lv_iconst (v := 0) hx hb dcX4_mark_22 (by decide) ?_
        refine lv_istore_n (lv' := [(3, .int 0), (2, .int (4 * v1)), (0, .ref (u r0)), (1, .ref (u r1))]) hx hb dcX4_mark_23 rfl hl (by decide) rfl (fun ls hl => ?_)
        exact ih_1 (4 * v1) 0 0 0 r0 r1 z3 H locs ls hr0 hr1 hM (lv_sub hl [2, 3, 1, 0] rfl) hq
      · intro x2 x3 x4 x5 r0 r1 z H locs ls hr0 hr1 hM hl hq
        have hq : cm_X4_mark_1 vl K (c_X4_mark vl K k) x2 x3 x4 x5 r0 r1 z = some z1 := hq
        unfold cm_X4_mark_1 at hq
        refine lv_iload_n hx hb dcX4_mark_24 rfl (lv_at hl 3 rfl) ?_
        refine lv_iload_n hx hb dcX4_mark_25 rfl (lv_at hl 2 rfl) ?_
        refine lv_icmp_ge (tgt := 106) hx hb dcX4_mark_26 (by decide) (fun hc => ?_) (fun hc => ?_)
        · have hq := tw_it hq hc
          exact cw_vret hx hb hr hlocks hM hq hQQ dcX4_mark_106
        · have hq := tw_if hq hc
          refine lv_aload_n hx hb dcX4_mark_29 rfl (lv_at hl 0 rfl) ?_
          refine vgX4_9 hx hb hT hown hK hM hr0 dcX4_mark_30 ?_
          refine lv_iload_n hx hb dcX4_mark_33 rfl (lv_at hl 3 rfl) ?_
          refine uw_iald cX_ok hx hb hK hM (cr_X4_0 hr0) hq dcX4_mark_34 (fun v4 hq => ?_)
          refine lv_iconst (v := (-1)) hx hb dcX4_mark_35 (by decide) ?_
          refine lv_icmp_eq (tgt := 42) hx hb dcX4_mark_36 (by decide) (fun hc => ?_) (fun hc => ?_)
          · have hq := tw_it hq hc
            refine lv_iload_n hx hb dcX4_mark_42 rfl (lv_at hl 3 rfl) ?_
            refine lv_istore (lv' := [(4, .int x3), (0, .ref (u r0)), (1, .ref (u r1)), (2, .int x2), (3, .int x3)]) hx hb dcX4_mark_43 hl (by decide) rfl (fun ls hl => ?_)
            refine lv_iconst (v := 0) hx hb dcX4_mark_45 (by decide) ?_
            refine lv_istore (lv' := [(5, .int 0), (4, .int x3), (0, .ref (u r0)), (1, .ref (u r1)), (2, .int x2), (3, .int x3)]) hx hb dcX4_mark_46 hl (by decide) rfl (fun ls hl => ?_)
            exact ih_2 x2 x3 x3 0 r0 r1 z H locs ls hr0 hr1 hM (lv_sub hl [2, 3, 4, 5, 1, 0] rfl) hq
          · have hq := tw_if hq hc
            refine lv_goto (tgt := 100) hx hb dcX4_mark_39 (by decide) ?_
            exact ih_4 x2 x3 0 0 r0 r1 z H locs ls hr0 hr1 hM (lv_sub hl [0, 1, 2, 3] rfl) hq
      · intro x2 x3 x4 x5 r0 r1 z H locs ls hr0 hr1 hM hl hq
        have hq : cm_X4_mark_2 vl K (c_X4_mark vl K k) x2 x3 x4 x5 r0 r1 z = some z1 := hq
        unfold cm_X4_mark_2 at hq
        refine lv_iload hx hb dcX4_mark_48 (lv_at hl 5 rfl) ?_
        refine lv_iload_n hx hb dcX4_mark_50 rfl (lv_at hl 2 rfl) ?_
        refine lv_icmp_ge (tgt := 90) hx hb dcX4_mark_51 (by decide) (fun hc => ?_) (fun hc => ?_)
        · have hq := tw_it hq hc
          exact ih_3 x2 x3 x4 x5 r0 r1 z H locs ls hr0 hr1 hM (lv_sub hl [0, 1, 2, 3, 4, 5] rfl) hq
        · have hq := tw_if hq hc
          refine lv_aload_n hx hb dcX4_mark_54 rfl (lv_at hl 0 rfl) ?_
          refine vgX4_9 hx hb hT hown hK hM hr0 dcX4_mark_55 ?_
          refine lv_iload hx hb dcX4_mark_58 (lv_at hl 4 rfl) ?_
          refine uw_iald cX_ok hx hb hK hM (cr_X4_0 hr0) hq dcX4_mark_60 (fun v5 hq => ?_)
          refine lv_iconst (v := (-1)) hx hb dcX4_mark_61 (by decide) ?_
          refine lv_icmp_ne (tgt := 90) hx hb dcX4_mark_62 (by decide) (fun hc => ?_) (fun hc => ?_)
          · have hq := tw_if hq hc
            exact ih_3 x2 x3 x4 x5 r0 r1 z H locs ls hr0 hr1 hM (lv_sub hl [0, 1, 2, 3, 4, 5] rfl) hq
          · have hq := tw_it hq hc
            refine lv_aload_n hx hb dcX4_mark_65 rfl (lv_at hl 0 rfl) ?_
            refine vgX4_9 hx hb hT hown hK hM hr0 dcX4_mark_66 ?_
            refine lv_iload hx hb dcX4_mark_69 (lv_at hl 4 rfl) ?_
            refine lv_aload_n hx hb dcX4_mark_71 rfl (lv_at hl 0 rfl) ?_
            refine vgX4_55 hx hb hT hown hK hM hr0 hq dcX4_mark_72 (fun v6 hq => ?_)
            refine uw_iast cX_ok hU hx hb hK hM (cr_X4_0 hr0) hq dcX4_mark_75 (fun z7 H locs hM hq => ?_)
            refine lv_aload_n hx hb dcX4_mark_76 rfl (lv_at hl 1 rfl) ?_
            refine lv_iload hx hb dcX4_mark_77 (lv_at hl 4 rfl) ?_
            obtain ⟨v9, z8, hcq, hq⟩ := tw_cl1 hq
            refine uw_cali hU hM (va_runS (As := [.ref (u r1), .int x4]) (rest := []) ⟨hx, hb, hml, hown, hts⟩ (kc_X4_onward l D q vl u hU.1 K r1 x4 hr1 z7 z8 v9 hcq) (va_cwS 2 hts (tw_gS wC_good xq_348 xq_349 xq_350 xq_343) rfl rfl rfl cdd_X4_onward ⟨(Nat.le_of_ble_eq_true rfl), (Nat.le_of_ble_eq_true rfl)⟩) (cw_preS hK hM) rfl rfl hl.1 rfl (lv_room (Nat.le_of_ble_eq_true rfl)) dcX4_mark_79 ⟨(Nat.le_of_ble_eq_true rfl), (Nat.le_of_ble_eq_true rfl)⟩) (fun H locs hM => ?_)
            refine lv_istore (lv' := [(4, .int v9), (0, .ref (u r0)), (1, .ref (u r1)), (2, .int x2), (3, .int x3), (5, .int x5)]) hx hb dcX4_mark_82 hl (by decide) rfl (fun ls hl => ?_)
            refine lv_iinc (v := (x5 + 1)) (lv' := [(5, .int (x5 + 1)), (4, .int v9), (0, .ref (u r0)), (1, .ref (u r1)), (2, .int x2), (3, .int x3)]) hx hb dcX4_mark_84 hl (k := 5) rfl rfl (by decide) rfl (fun ls hl => ?_)
            refine lv_goto (tgt := 48) hx hb dcX4_mark_87 (by decide) ?_
            exact ih_2 x2 x3 v9 (x5 + 1) r0 r1 z8 H locs ls hr0 hr1 hM (lv_sub hl [2, 3, 4, 5, 1, 0] rfl) hq
      · intro x2 x3 x4 x5 r0 r1 z H locs ls hr0 hr1 hM hl hq
        have hq : cm_X4_mark_3 vl K (c_X4_mark vl K k) x2 x3 x4 x5 r0 r1 z = some z1 := hq
        unfold cm_X4_mark_3 at hq
        refine lv_aload_n hx hb dcX4_mark_90 rfl (lv_at hl 0 rfl) ?_
        refine lv_dup hx hb dcX4_mark_91 rfl ?_
        refine vgX4_55 hx hb hT hown hK hM hr0 hq dcX4_mark_92 (fun v10 hq => ?_)
        refine lv_iconst (v := 1) hx hb dcX4_mark_95 (by decide) ?_
        refine lv_iadd hx hb dcX4_mark_96 ?_
        refine vpX4_55 hx hb hT hown hK hM hU hr0 hq dcX4_mark_97 (fun z11 H locs hM hq => ?_)
        exact ih_4 x2 x3 0 0 r0 r1 z11 H locs ls hr0 hr1 hM (lv_sub hl [0, 1, 2, 3] rfl) hq
      · intro x2 x3 x4 x5 r0 r1 z H locs ls hr0 hr1 hM hl hq
        have hq : cm_X4_mark_4 vl K (c_X4_mark vl K k) x2 x3 x4 x5 r0 r1 z = some z1 := hq
        unfold cm_X4_mark_4 at hq
        refine lv_iinc (v := (x3 + 1)) (lv' := [(3, .int (x3 + 1)), (0, .ref (u r0)), (1, .ref (u r1)), (2, .int x2)]) hx hb dcX4_mark_100 hl (k := 3) rfl rfl (by decide) rfl (fun ls hl => ?_)
        refine lv_goto (tgt := 24) hx hb dcX4_mark_103 (by decide) ?_
        exact ih_1 x2 (x3 + 1) 0 0 r0 r1 z H locs ls hr0 hr1 hM (lv_sub hl [1, 2, 3, 0] rfl) hq
  exact (key K).1 0 0 0 0 r0 r1 z s.heap [] ls hr0 hr1 hM (lv_sub hl [0, 1] rfl) hq
