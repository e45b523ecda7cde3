theorem dcX11_feed_0 : decode cX11_feed 0 = .ok (.aload_n 0, 1) := dw_at cX11_feed_k0 (p := 0) rfl (by decide +kernel)
theorem dcX11_feed_1 : decode cX11_feed 1 = .ok (.getfield 51, 3) := dw_at cX11_feed_k0 (p := 1) rfl (by decide +kernel)
theorem dcX11_feed_4 : decode cX11_feed 4 = .ok (.getfield 114, 3) := dw_at cX11_feed_k0 (p := 4) rfl (by decide +kernel)
theorem dcX11_feed_7 : decode cX11_feed 7 = .ok (.bipush 20, 2) := dw_at cX11_feed_k0 (p := 7) rfl (by decide +kernel)
theorem dcX11_feed_9 : decode cX11_feed 9 = .ok (.iadd, 1) := dw_at cX11_feed_k0 (p := 9) rfl (by decide +kernel)
theorem dcX11_feed_10 : decode cX11_feed 10 = .ok (.sipush 400, 3) := dw_at cX11_feed_k0 (p := 10) rfl (by decide +kernel)
theorem dcX11_feed_13 : decode cX11_feed 13 = .ok (.if_icmp .le 13, 3) := dw_at cX11_feed_k0 (p := 13) rfl (by decide +kernel)
theorem dcX11_feed_16 : decode cX11_feed 16 = .ok (.new 118, 3) := dw_at cX11_feed_k0 (p := 16) rfl (by decide +kernel)
theorem dcX11_feed_19 : decode cX11_feed 19 = .ok (.dup, 1) := dw_at cX11_feed_k0 (p := 19) rfl (by decide +kernel)
theorem dcX11_feed_20 : decode cX11_feed 20 = .ok (.ldc 120, 2) := dw_at cX11_feed_k0 (p := 20) rfl (by decide +kernel)
theorem dcX11_feed_22 : decode cX11_feed 22 = .ok (.invokespecial 122, 3) := dw_at cX11_feed_k0 (p := 22) rfl (by decide +kernel)
theorem dcX11_feed_25 : decode cX11_feed 25 = .ok (.athrow, 1) := dw_at cX11_feed_k1 (p := 0) rfl (by decide +kernel)
theorem dcX11_feed_26 : decode cX11_feed 26 = .ok (.aload_n 0, 1) := dw_at cX11_feed_k1 (p := 1) rfl (by decide +kernel)
theorem dcX11_feed_27 : decode cX11_feed 27 = .ok (.getfield 51, 3) := dw_at cX11_feed_k1 (p := 2) rfl (by decide +kernel)
theorem dcX11_feed_30 : decode cX11_feed 30 = .ok (.iload_n 1, 1) := dw_at cX11_feed_k1 (p := 5) rfl (by decide +kernel)
theorem dcX11_feed_31 : decode cX11_feed 31 = .ok (.invokevirtual 125, 3) := dw_at cX11_feed_k1 (p := 6) rfl (by decide +kernel)
theorem dcX11_feed_34 : decode cX11_feed 34 = .ok (.aload_n 0, 1) := dw_at cX11_feed_k1 (p := 9) rfl (by decide +kernel)
theorem dcX11_feed_35 : decode cX11_feed 35 = .ok (.getfield 51, 3) := dw_at cX11_feed_k1 (p := 10) rfl (by decide +kernel)
theorem dcX11_feed_38 : decode cX11_feed 38 = .ok (.iload_n 2, 1) := dw_at cX11_feed_k1 (p := 13) rfl (by decide +kernel)
theorem dcX11_feed_39 : decode cX11_feed 39 = .ok (.invokevirtual 125, 3) := dw_at cX11_feed_k1 (p := 14) rfl (by decide +kernel)
theorem dcX11_feed_42 : decode cX11_feed 42 = .ok (.aload_n 0, 1) := dw_at cX11_feed_k1 (p := 17) rfl (by decide +kernel)
theorem dcX11_feed_43 : decode cX11_feed 43 = .ok (.getfield 51, 3) := dw_at cX11_feed_k1 (p := 18) rfl (by decide +kernel)
theorem dcX11_feed_46 : decode cX11_feed 46 = .ok (.iload_n 3, 1) := dw_at cX11_feed_k1 (p := 21) rfl (by decide +kernel)
theorem dcX11_feed_47 : decode cX11_feed 47 = .ok (.invokevirtual 125, 3) := dw_at cX11_feed_k1 (p := 22) rfl (by decide +kernel)
theorem dcX11_feed_50 : decode cX11_feed 50 = .ok (.aload_n 0, 1) := dw_at cX11_feed_k2 (p := 0) rfl (by decide +kernel)
theorem dcX11_feed_51 : decode cX11_feed 51 = .ok (.getfield 51, 3) := dw_at cX11_feed_k2 (p := 1) rfl (by decide +kernel)
theorem dcX11_feed_54 : decode cX11_feed 54 = .ok (.iload 4, 2) := dw_at cX11_feed_k2 (p := 4) rfl (by decide +kernel)
theorem dcX11_feed_56 : decode cX11_feed 56 = .ok (.invokevirtual 125, 3) := dw_at cX11_feed_k2 (p := 6) rfl (by decide +kernel)
theorem dcX11_feed_59 : decode cX11_feed 59 = .ok (.aload_n 0, 1) := dw_at cX11_feed_k2 (p := 9) rfl (by decide +kernel)
theorem dcX11_feed_60 : decode cX11_feed 60 = .ok (.getfield 51, 3) := dw_at cX11_feed_k2 (p := 10) rfl (by decide +kernel)
theorem dcX11_feed_63 : decode cX11_feed 63 = .ok (.iload 5, 2) := dw_at cX11_feed_k2 (p := 13) rfl (by decide +kernel)
theorem dcX11_feed_65 : decode cX11_feed 65 = .ok (.invokevirtual 125, 3) := dw_at cX11_feed_k2 (p := 15) rfl (by decide +kernel)
theorem dcX11_feed_68 : decode cX11_feed 68 = .ok (.aload_n 0, 1) := dw_at cX11_feed_k2 (p := 18) rfl (by decide +kernel)
theorem dcX11_feed_69 : decode cX11_feed 69 = .ok (.getfield 51, 3) := dw_at cX11_feed_k2 (p := 19) rfl (by decide +kernel)
theorem dcX11_feed_72 : decode cX11_feed 72 = .ok (.getfield 114, 3) := dw_at cX11_feed_k2 (p := 22) rfl (by decide +kernel)
theorem dcX11_feed_75 : decode cX11_feed 75 = .ok (.ireturn, 1) := dw_at cX11_feed_k2 (p := 25) rfl (by decide +kernel)
def cm_X11_feed_0 (vl : Nat → Nat) (K : Nat) (x1 : Int32) (x2 : Int32) (x3 : Int32) (x4 : Int32) (x5 : Int32) (r0 : Nat) (z : ow_MS) : Option (Nat × Int32 × ow_MS) :=
 rdF z ((r0 + 11000) + 1) fun v1 => (if (v1 + 20) ≤ 400 then cs0 (ce_X9_take vl K (r0 + 11000) x1 z) fun z2 => cs0 (ce_X9_take vl K (r0 + 11000) x2 z2) fun z3 => cs0 (ce_X9_take vl K (r0 + 11000) x3 z3) fun z4 => cs0 (ce_X9_take vl K (r0 + 11000) x4 z4) fun z5 => cs0 (ce_X9_take vl K (r0 + 11000) x5 z5) fun z6 => rdF z6 ((r0 + 11000) + 1) fun v7 => some (0, v7, z6)
 else some (3, 0, z))
def ce_X11_feed (vl : Nat → Nat) (K : Nat) (r0 : Nat) (x1 : Int32) (x2 : Int32) (x3 : Int32) (x4 : Int32) (x5 : Int32) (z : ow_MS) : Option (Nat × Int32 × ow_MS) := cm_X11_feed_0 vl K x1 x2 x3 x4 x5 r0 z
abbrev wc_X11_feed : List Cond := .code yX11_feed cX11_feed 6 (some .int) :: wT
theorem cdd_X11_feed : yX11_feed.cls = RX11 ∧ yX11_feed.cls ≠ "java/lang/invoke/MethodHandle" ∧ yX11_feed.cls ≠ "java/lang/invoke/VarHandle" ∧ (parseMethodDescriptor yX11_feed.desc).map (fun d => d.parameters.length) = some 5 := by decide +kernel
set_option maxHeartbeats 4000000 in
set_option maxRecDepth 100000 in
theorem kc_X11_feed (l : Launch) (D : va_G) (q : Nat → ClassId) (vl u : Nat → Nat) (hU0 : tw_inj (cX vl) u) (hlt : l.stackTraces = false) (sa : Nat → Nat) (K : Nat) (r0 : Nat) (x1 : Int32) (x2 : Int32) (x3 : Int32) (x4 : Int32) (x5 : Int32) (hr0 : cw_X11 r0) (z z1 : ow_MS) (k9 : Nat) (r : Int32) (hq : ce_X11_feed vl K r0 x1 x2 x3 x4 x5 z = some (k9, r, z1)) : vx_Met l yX11_feed wc_X11_feed ({ frames := 6, cells := 1, slots := 6, locals := 90 } : Room) (va_Pc [.ref (u r0), .int x1, .int x2, .int x3, .int x4, .int x5] (cw_preT D q vl u sa z)) (va_Qi (fun x (_ : Unit) => k9 = 0 ∧ x = r) (fun _ t => va_P D vwCl (uw (cX vl) q u z1) t.heap) (tw_A (cX vl) u)) (ct_X D q vl u k9 z1) 1 6 (tw_A (cX vl) u) := by
  refine vx_ofW (cc := cX11_feed) (maxL := 6) (ret := (some .int)) (by decide) rfl ?_
  intro p e s m args below meth c s₁ B hml hex hv
  obtain ⟨rfl, hP, hK, hTh⟩ := hv
  have hx := B.exec
  have hb := B.bytes
  have hr := B.returns
  have hts := atoms_spec (ws := wc_X11_feed) B.pre
  have hT : ∀ w ∈ wC, w.before ([.ref (u r0), .int x1, .int x2, .int x3, .int x4, .int x5] : List Value).toArray s = true := fun w h => hts w (List.mem_cons_of_mem _ (wT_C w h))
  have hown : s.vm.findClass RX11 = some m.cls := findClass_of_methodNamed B.named
  have hlocks := B.notSynchronized
  have hU : uw_inj (cX vl) u (tw_A (cX vl) u) := ⟨hU0, fun h hh => ⟨h, hh, rfl⟩⟩
  have hM : uw_M D vwCl (cX vl) q (tw_A (cX vl) u) s.heap u z s.heap [] := ⟨hP, va_S.rf⟩
  have hl := lv_entry ([.ref (u r0), .int x1, .int x2, .int x3, .int x4, .int x5]) (n := 6) (Nat.le_of_ble_eq_true rfl)
  rw [lg_entry_eq]
  generalize (lg_sl ([.ref (u r0), .int x1, .int x2, .int x3, .int x4, .int x5]) ++ List.replicate (6 - (lg_sl ([.ref (u r0), .int x1, .int x2, .int x3, .int x4, .int x5])).length) Slot.unset).toArray = ls at hl ⊢
  have hl : lv_has ls 6 [(0, .ref (u r0)), (1, .int x1), (2, .int x2), (3, .int x3), (4, .int x4), (5, .int x5)] := hl
  refine ow_named (fun QQ hQQ => ?_)
  generalize ([.ref (u r0), .int x1, .int x2, .int x3, .int x4, .int x5] : List Value).toArray = args at hts hT hQQ ⊢
  have hq : cm_X11_feed_0 vl K x1 x2 x3 x4 x5 r0 z = some (k9, r, z1) := hq
  unfold cm_X11_feed_0 at hq
  suffices key : ∀ (H : Heap) (locs : List Loc), uw_M D vwCl (cX vl) q (tw_A (cX vl) u) s.heap u z H locs → W p l e ({ frames := 6, cells := 1, slots := 6, locals := 90 } : Room) s m args below meth c H locs 0 0 QQ (F0 m 0 ls []) from key s.heap [] hM
  intro H locs hM
  refine lv_aload_n hx hb dcX11_feed_0 rfl (lv_at hl 0 rfl) ?_
  refine vgX11_51 hx hb hT hown hK hM hr0 dcX11_feed_1 ?_
  refine vgX11_114 hx hb hT hown hK hM (cs_X11_7 hr0) hq dcX11_feed_4 (fun v1 hq => ?_)
  refine lv_bipush (v := 20) hx hb dcX11_feed_7 (by decide) ?_
  refine lv_iadd hx hb dcX11_feed_9 ?_
  refine lv_sipush (v := 400) hx hb dcX11_feed_10 (by decide) ?_
  refine lv_icmp_le (tgt := 26) hx hb dcX11_feed_13 (by decide) (fun hc => ?_) (fun hc => ?_)
  · have hq := tw_it hq hc
    refine lv_aload_n hx hb dcX11_feed_26 rfl (lv_at hl 0 rfl) ?_
    refine vgX11_51 hx hb hT hown hK hM hr0 dcX11_feed_27 ?_
    refine lv_iload_n hx hb dcX11_feed_30 rfl (lv_at hl 1 rfl) ?_
    obtain ⟨z2, hcq, hq⟩ := tw_cl0 hq
    refine uw_calv hU hM (va_runV (As := [.int x1]) (rest := []) ⟨hx, hb, hml, hown, hts⟩ (kc_X9_take l D q vl u hU.1 K (r0 + 11000) x1 (cs_X11_7 hr0) z z2 hcq) (cwV 1 hts (tw_gV2 wT_good wT_C (wT_C _ xq_762) (wT_C _ xq_763) (wT_C _ xq_764) (wT_C _ xq_673) (wT_C _ xq_665)) rfl rfl rfl cdd_X9_take ⟨(Nat.le_of_ble_eq_true rfl), (Nat.le_of_ble_eq_true rfl)⟩) (cw_preV hK hM (co_X9 (cs_X11_7 hr0)) rfl) rfl rfl hl.1 rfl (lv_room (Nat.le_of_ble_eq_true rfl)) dcX11_feed_31 ⟨(Nat.le_of_ble_eq_true rfl), (Nat.le_of_ble_eq_true rfl)⟩) (fun H locs hM => ?_)
    refine lv_aload_n hx hb dcX11_feed_34 rfl (lv_at hl 0 rfl) ?_
    refine vgX11_51 hx hb hT hown hK hM hr0 dcX11_feed_35 ?_
    refine lv_iload_n hx hb dcX11_feed_38 rfl (lv_at hl 2 rfl) ?_
    obtain ⟨z3, hcq, hq⟩ := tw_cl0 hq
    refine uw_calv hU hM (va_runV (As := [.int x2]) (rest := []) ⟨hx, hb, hml, hown, hts⟩ (kc_X9_take l D q vl u hU.1 K (r0 + 11000) x2 (cs_X11_7 hr0) z2 z3 hcq) (cwV 1 hts (tw_gV2 wT_good wT_C (wT_C _ xq_762) (wT_C _ xq_763) (wT_C _ xq_764) (wT_C _ xq_673) (wT_C _ xq_665)) rfl rfl rfl cdd_X9_take ⟨(Nat.le_of_ble_eq_true rfl), (Nat.le_of_ble_eq_true rfl)⟩) (cw_preV hK hM (co_X9 (cs_X11_7 hr0)) rfl) rfl rfl hl.1 rfl (lv_room (Nat.le_of_ble_eq_true rfl)) dcX11_feed_39 ⟨(Nat.le_of_ble_eq_true rfl), (Nat.le_of_ble_eq_true rfl)⟩) (fun H locs hM => ?_)
    refine lv_aload_n hx hb dcX11_feed_42 rfl (lv_at hl 0 rfl) ?_
    refine vgX11_51 hx hb hT hown hK hM hr0 dcX11_feed_43 ?_
    refine lv_iload_n hx hb dcX11_feed_46 rfl (lv_at hl 3 rfl) ?_
    obtain ⟨z4, hcq, hq⟩ := tw_cl0 hq
    refine uw_calv hU hM (va_runV (As := [.int x3]) (rest := []) ⟨hx, hb, hml, hown, hts⟩ (kc_X9_take l D q vl u hU.1 K (r0 + 11000) x3 (cs_X11_7 hr0) z3 z4 hcq) (cwV 1 hts (tw_gV2 wT_good wT_C (wT_C _ xq_762) (wT_C _ xq_763) (wT_C _ xq_764) (wT_C _ xq_673) (wT_C _ xq_665)) rfl rfl rfl cdd_X9_take ⟨(Nat.le_of_ble_eq_true rfl), (Nat.le_of_ble_eq_true rfl)⟩) (cw_preV hK hM (co_X9 (cs_X11_7 hr0)) rfl) rfl rfl hl.1 rfl (lv_room (Nat.le_of_ble_eq_true rfl)) dcX11_feed_47 ⟨(Nat.le_of_ble_eq_true rfl), (Nat.le_of_ble_eq_true rfl)⟩) (fun H locs hM => ?_)
    refine lv_aload_n hx hb dcX11_feed_50 rfl (lv_at hl 0 rfl) ?_
    refine vgX11_51 hx hb hT hown hK hM hr0 dcX11_feed_51 ?_
    refine lv_iload hx hb dcX11_feed_54 (lv_at hl 4 rfl) ?_
    obtain ⟨z5, hcq, hq⟩ := tw_cl0 hq
    refine uw_calv hU hM (va_runV (As := [.int x4]) (rest := []) ⟨hx, hb, hml, hown, hts⟩ (kc_X9_take l D q vl u hU.1 K (r0 + 11000) x4 (cs_X11_7 hr0) z4 z5 hcq) (cwV 1 hts (tw_gV2 wT_good wT_C (wT_C _ xq_762) (wT_C _ xq_763) (wT_C _ xq_764) (wT_C _ xq_673) (wT_C _ xq_665)) rfl rfl rfl cdd_X9_take ⟨(Nat.le_of_ble_eq_true rfl), (Nat.le_of_ble_eq_true rfl)⟩) (cw_preV hK hM (co_X9 (cs_X11_7 hr0)) rfl) rfl rfl hl.1 rfl (lv_room (Nat.le_of_ble_eq_true rfl)) dcX11_feed_56 ⟨(Nat.le_of_ble_eq_true rfl), (Nat.le_of_ble_eq_true rfl)⟩) (fun H locs hM => ?_)
    refine lv_aload_n hx hb dcX11_feed_59 rfl (lv_at hl 0 rfl) ?_
    refine vgX11_51 hx hb hT hown hK hM hr0 dcX11_feed_60 ?_
    refine lv_iload hx hb dcX11_feed_63 (lv_at hl 5 rfl) ?_
    obtain ⟨z6, hcq, hq⟩ := tw_cl0 hq
    refine uw_calv hU hM (va_runV (As := [.int x5]) (rest := []) ⟨hx, hb, hml, hown, hts⟩ (kc_X9_take l D q vl u hU.1 K (r0 + 11000) x5 (cs_X11_7 hr0) z5 z6 hcq) (cwV 1 hts (tw_gV2 wT_good wT_C (wT_C _ xq_762) (wT_C _ xq_763) (wT_C _ xq_764) (wT_C _ xq_673) (wT_C _ xq_665)) rfl rfl rfl cdd_X9_take ⟨(Nat.le_of_ble_eq_true rfl), (Nat.le_of_ble_eq_true rfl)⟩) (cw_preV hK hM (co_X9 (cs_X11_7 hr0)) rfl) rfl rfl hl.1 rfl (lv_room (Nat.le_of_ble_eq_true rfl)) dcX11_feed_65 ⟨(Nat.le_of_ble_eq_true rfl), (Nat.le_of_ble_eq_true rfl)⟩) (fun H locs hM => ?_)
    refine lv_aload_n hx hb dcX11_feed_68 rfl (lv_at hl 0 rfl) ?_
    refine vgX11_51 hx hb hT hown hK hM hr0 dcX11_feed_69 ?_
    refine vgX11_114 hx hb hT hown hK hM (cs_X11_7 hr0) hq dcX11_feed_72 (fun v7 hq => ?_)
    exact ct_iret hx hb hr hlocks hM hq hQQ (Nat.le_of_ble_eq_true rfl) (Nat.le_of_ble_eq_true rfl) dcX11_feed_75
  · have hq := tw_if hq hc
    obtain ⟨rfl, h9⟩ := Prod.mk.inj (Option.some.inj hq)
    obtain ⟨rfl, rfl⟩ := Prod.mk.inj h9
    exact ct_throw (k := 3) (text := "the tape is full") (cls := "java/lang/IllegalStateException") hx hb hlt hown hex hlocks (by rw [hml]; exact hl.1.symm) hTh (List.mem_of_getElem? (i := 0) rfl) rfl (by decide) (by decide +kernel) (hts _ (List.mem_cons_of_mem _ wT_k3)) (hts _ (List.mem_cons_of_mem _ wT_i3)) (fun w h => hts w (List.mem_cons_of_mem _ (wT_3 w h))) th9_3 tg9_3 hM dcX11_feed_16 dcX11_feed_19 dcX11_feed_20 dcX11_feed_22 dcX11_feed_25 hQQ (Nat.le_of_ble_eq_true rfl) (Nat.le_of_ble_eq_true rfl) (Nat.le_of_ble_eq_true rfl) (Nat.le_of_ble_eq_true rfl) (Nat.le_of_ble_eq_true rfl) (Nat.le_of_ble_eq_true rfl)
theorem dcX11_end_0 : decode cX11_end 0 = .ok (.iload_n 1, 1) := by decide +kernel
theorem dcX11_end_1 : decode cX11_end 1 = .ok (.ifCond .lt 14, 3) := by decide +kernel
theorem dcX11_end_4 : decode cX11_end 4 = .ok (.iload_n 1, 1) := by decide +kernel
theorem dcX11_end_5 : decode cX11_end 5 = .ok (.aload_n 0, 1) := by decide +kernel
theorem dcX11_end_6 : decode cX11_end 6 = .ok (.getfield 51, 3) := by decide +kernel
theorem dcX11_end_9 : decode cX11_end 9 = .ok (.getfield 114, 3) := by decide +kernel
theorem dcX11_end_12 : decode cX11_end 12 = .ok (.if_icmp .le 13, 3) := by decide +kernel
theorem dcX11_end_15 : decode cX11_end 15 = .ok (.new 128, 3) := by decide +kernel
theorem dcX11_end_18 : decode cX11_end 18 = .ok (.dup, 1) := by decide +kernel
theorem dcX11_end_19 : decode cX11_end 19 = .ok (.ldc 130, 2) := by decide +kernel
theorem dcX11_end_21 : decode cX11_end 21 = .ok (.invokespecial 132, 3) := by decide +kernel
theorem dcX11_end_24 : decode cX11_end 24 = .ok (.athrow, 1) := by decide +kernel
theorem dcX11_end_25 : decode cX11_end 25 = .ok (.aload_n 0, 1) := by decide +kernel
theorem dcX11_end_26 : decode cX11_end 26 = .ok (.getfield 51, 3) := by decide +kernel
theorem dcX11_end_29 : decode cX11_end 29 = .ok (.iload_n 1, 1) := by decide +kernel
theorem dcX11_end_30 : decode cX11_end 30 = .ok (.putfield 114, 3) := by decide +kernel
theorem dcX11_end_33 : decode cX11_end 33 = .ok (.return_, 1) := by decide +kernel
def cm_X11_end_0 (vl : Nat → Nat) (K : Nat) (x1 : Int32) (r0 : Nat) (z : ow_MS) : Option (Nat × ow_MS) :=
 (if x1 < 0 then some (2, z)
 else rdF z ((r0 + 11000) + 1) fun v1 => (if x1 ≤ v1 then wrF z ((r0 + 11000) + 1) x1 fun z2 => some (0, z2)
 else some (2, z)))
def ce_X11_end (vl : Nat → Nat) (K : Nat) (r0 : Nat) (x1 : Int32) (z : ow_MS) : Option (Nat × ow_MS) := cm_X11_end_0 vl K x1 r0 z
abbrev wc_X11_end : List Cond := .code yX11_end cX11_end 2 none :: wT
theorem cdd_X11_end : yX11_end.cls = RX11 ∧ yX11_end.cls ≠ "java/lang/invoke/MethodHandle" ∧ yX11_end.cls ≠ "java/lang/invoke/VarHandle" ∧ (parseMethodDescriptor yX11_end.desc).map (fun d => d.parameters.length) = some 1 := by decide +kernel
set_option maxHeartbeats 4000000 in
set_option maxRecDepth 100000 in
theorem kc_X11_end (l : Launch) (D : va_G) (q : Nat → ClassId) (vl u : Nat → Nat) (hU0 : tw_inj (cX vl) u) (hlt : l.stackTraces = false) (sa : Nat → Nat) (K : Nat) (r0 : Nat) (x1 : Int32) (hr0 : cw_X11 r0) (z z1 : ow_MS) (k9 : Nat) (hq : ce_X11_end vl K r0 x1 z = some (k9, z1)) : vx_Met l yX11_end wc_X11_end ({ frames := 6, cells := 1, slots := 6, locals := 90 } : Room) (va_Pc [.ref (u r0), .int x1] (cw_preT D q vl u sa z)) (va_Qv (fun (_ : Unit) => k9 = 0) (fun _ t => va_P D vwCl (uw (cX vl) q u z1) t.heap) (tw_A (cX vl) u)) (ct_X D q vl u k9 z1) 1 6 (tw_A (cX vl) u) := by
  refine vx_ofW (cc := cX11_end) (maxL := 2) (ret := none) (by decide) rfl ?_
  intro p e s m args below meth c s₁ B hml hex hv
  obtain ⟨rfl, hP, hK, hTh⟩ := hv
  have hx := B.exec
  have hb := B.bytes
  have hr := B.returns
  have hts := atoms_spec (ws := wc_X11_end) B.pre
  have hT : ∀ w ∈ wC, w.before ([.ref (u r0), .int x1] : List Value).toArray s = true := fun w h => hts w (List.mem_cons_of_mem _ (wT_C w h))
  have hown : s.vm.findClass RX11 = some m.cls := findClass_of_methodNamed B.named
  have hlocks := B.notSynchronized
  have hU : uw_inj (cX vl) u (tw_A (cX vl) u) := ⟨hU0, fun h hh => ⟨h, hh, rfl⟩⟩
  have hM : uw_M D vwCl (cX vl) q (tw_A (cX vl) u) s.heap u z s.heap [] := ⟨hP, va_S.rf⟩
  have hl := lv_entry ([.ref (u r0), .int x1]) (n := 2) (Nat.le_of_ble_eq_true rfl)
  rw [lg_entry_eq]
  generalize (lg_sl ([.ref (u r0), .int x1]) ++ List.replicate (2 - (lg_sl ([.ref (u r0), .int x1])).length) Slot.unset).toArray = ls at hl ⊢
  have hl : lv_has ls 2 [(0, .ref (u r0)), (1, .int x1)] := hl
  refine ow_named (fun QQ hQQ => ?_)
  generalize ([.ref (u r0), .int x1] : List Value).toArray = args at hts hT hQQ ⊢
  have hq : cm_X11_end_0 vl K x1 r0 z = some (k9, z1) := hq
  unfold cm_X11_end_0 at hq
  suffices key : ∀ (H : Heap) (locs : List Loc), uw_M D vwCl (cX vl) q (tw_A (cX vl) u) s.heap u z H locs → W p l e ({ frames := 6, cells := 1, slots := 6, locals := 90 } : Room) s m args below meth c H locs 0 0 QQ (F0 m 0 ls []) from key s.heap [] hM
  intro H locs hM
  refine lv_iload_n hx hb dcX11_end_0 rfl (lv_at hl 1 rfl) ?_
  refine lv_if_lt (tgt := 15) hx hb dcX11_end_1 (by decide) (fun hc => ?_) (fun hc => ?_)
  · have hq := tw_it hq hc
    obtain ⟨rfl, rfl⟩ := Prod.mk.inj (Option.some.inj hq)
    exact ct_throw (k := 2) (text := "the tape has not so many bytes") (cls := "java/lang/IllegalArgumentException") hx hb hlt hown hex hlocks (by rw [hml]; exact hl.1.symm) hTh (List.mem_of_getElem? (i := 1) rfl) rfl (by decide) (by decide +kernel) (hts _ (List.mem_cons_of_mem _ wT_k2)) (hts _ (List.mem_cons_of_mem _ wT_i2)) (fun w h => hts w (List.mem_cons_of_mem _ (wT_2 w h))) th9_2 tg9_2 hM dcX11_end_15 dcX11_end_18 dcX11_end_19 dcX11_end_21 dcX11_end_24 hQQ (Nat.le_of_ble_eq_true rfl) (Nat.le_of_ble_eq_true rfl) (Nat.le_of_ble_eq_true rfl) (Nat.le_of_ble_eq_true rfl) (Nat.le_of_ble_eq_true rfl) (Nat.le_of_ble_eq_true rfl)
  · have hq := tw_if hq hc
    refine lv_iload_n hx hb dcX11_end_4 rfl (lv_at hl 1 rfl) ?_
    refine lv_aload_n hx hb dcX11_end_5 rfl (lv_at hl 0 rfl) ?_
    refine vgX11_51 hx hb hT hown hK hM hr0 dcX11_end_6 ?_
    refine vgX11_114 hx hb hT hown hK hM (cs_X11_7 hr0) hq dcX11_end_9 (fun v1 hq => ?_)
    refine lv_icmp_le (tgt := 25) hx hb dcX11_end_12 (by decide) (fun hc => ?_) (fun hc => ?_)
    · have hq := tw_it hq hc
      refine lv_aload_n hx hb dcX11_end_25 rfl (lv_at hl 0 rfl) ?_
      refine vgX11_51 hx hb hT hown hK hM hr0 dcX11_end_26 ?_
      refine lv_iload_n hx hb dcX11_end_29 rfl (lv_at hl 1 rfl) ?_
      refine vpX11_114 hx hb hT hown hK hM hU (cs_X11_7 hr0) hq dcX11_end_30 (fun z2 H locs hM hq => ?_)
      exact ct_vret hx hb hr hlocks hM hq hQQ (Nat.le_of_ble_eq_true rfl) (Nat.le_of_ble_eq_true rfl) dcX11_end_33
    · have hq := tw_if hq hc
      obtain ⟨rfl, rfl⟩ := Prod.mk.inj (Option.some.inj hq)
      exact ct_throw (k := 2) (text := "the tape has not so many bytes") (cls := "java/lang/IllegalArgumentException") hx hb hlt hown hex hlocks (by rw [hml]; exact hl.1.symm) hTh (List.mem_of_getElem? (i := 1) rfl) rfl (by decide) (by decide +kernel) (hts _ (List.mem_cons_of_mem _ wT_k2)) (hts _ (List.mem_cons_of_mem _ wT_i2)) (fun w h => hts w (List.mem_cons_of_mem _ (wT_2 w h))) th9_2 tg9_2 hM dcX11_end_15 dcX11_end_18 dcX11_end_19 dcX11_end_21 dcX11_end_24 hQQ (Nat.le_of_ble_eq_true rfl) (Nat.le_of_ble_eq_true rfl) (Nat.le_of_ble_eq_true rfl) (Nat.le_of_ble_eq_true rfl) (Nat.le_of_ble_eq_true rfl) (Nat.le_of_ble_eq_true rfl)
theorem dcX11_freeDiagram_0 : decode cX11_freeDiagram 0 = .ok (.iconst 0, 1) := by decide +kernel
theorem dcX11_freeDiagram_1 : decode cX11_freeDiagram 1 = .ok (.istore_n 1, 1) := by decide +kernel
theorem dcX11_freeDiagram_2 : decode cX11_freeDiagram 2 = .ok (.iload_n 1, 1) := by decide +kernel
theorem dcX11_freeDiagram_3 : decode cX11_freeDiagram 3 = .ok (.bipush 40, 2) := by decide +kernel
theorem dcX11_freeDiagram_5 : decode cX11_freeDiagram 5 = .ok (.if_icmp .ge 23, 3) := by decide +kernel
theorem dcX11_freeDiagram_8 : decode cX11_freeDiagram 8 = .ok (.aload_n 0, 1) := by decide +kernel
theorem dcX11_freeDiagram_9 : decode cX11_freeDiagram 9 = .ok (.getfield 14, 3) := by decide +kernel
theorem dcX11_freeDiagram_12 : decode cX11_freeDiagram 12 = .ok (.getfield 158, 3) := by decide +kernel
theorem dcX11_freeDiagram_15 : decode cX11_freeDiagram 15 = .ok (.iload_n 1, 1) := by decide +kernel
theorem dcX11_freeDiagram_16 : decode cX11_freeDiagram 16 = .ok (.baload, 1) := by decide +kernel
theorem dcX11_freeDiagram_17 : decode cX11_freeDiagram 17 = .ok (.ifCond .ne 5, 3) := by decide +kernel
theorem dcX11_freeDiagram_20 : decode cX11_freeDiagram 20 = .ok (.iload_n 1, 1) := by decide +kernel
theorem dcX11_freeDiagram_21 : decode cX11_freeDiagram 21 = .ok (.ireturn, 1) := by decide +kernel
theorem dcX11_freeDiagram_22 : decode cX11_freeDiagram 22 = .ok (.iinc 1 1, 3) := by decide +kernel
theorem dcX11_freeDiagram_25 : decode cX11_freeDiagram 25 = .ok (.goto (-23), 3) := by decide +kernel
theorem dcX11_freeDiagram_28 : decode cX11_freeDiagram 28 = .ok (.new 118, 3) := by decide +kernel
theorem dcX11_freeDiagram_31 : decode cX11_freeDiagram 31 = .ok (.dup, 1) := by decide +kernel
theorem dcX11_freeDiagram_32 : decode cX11_freeDiagram 32 = .ok (.ldc 174, 2) := by decide +kernel
theorem dcX11_freeDiagram_34 : decode cX11_freeDiagram 34 = .ok (.invokespecial 122, 3) := by decide +kernel
theorem dcX11_freeDiagram_37 : decode cX11_freeDiagram 37 = .ok (.athrow, 1) := by decide +kernel
def cm_X11_freeDiagram_0 (vl : Nat → Nat) (K : Nat) (go : Nat → Int32 → Nat → ow_MS → Option (Nat × Int32 × ow_MS)) (x1 : Int32) (r0 : Nat) (z : ow_MS) : Option (Nat × Int32 × ow_MS) :=
 go 1 0 r0 z
def cm_X11_freeDiagram_1 (vl : Nat → Nat) (K : Nat) (go : Nat → Int32 → Nat → ow_MS → Option (Nat × Int32 × ow_MS)) (x1 : Int32) (r0 : Nat) (z : ow_MS) : Option (Nat × Int32 × ow_MS) :=
 (if 40 ≤ x1 then some (3, 0, z)
 else crI (cX vl) z ((r0 + 1000) + 2) x1 fun v1 => (if v1 = 0 then some (0, x1, z)
 else go 1 (x1 + 1) r0 z))
def cb_X11_freeDiagram (vl : Nat → Nat) (K : Nat) (go : Nat → Int32 → Nat → ow_MS → Option (Nat × Int32 × ow_MS)) (L : Nat) (x1 : Int32) (r0 : Nat) (z : ow_MS) : Option (Nat × Int32 × ow_MS) := match L with
  | 0 => cm_X11_freeDiagram_0 vl K go x1 r0 z
  | 1 => cm_X11_freeDiagram_1 vl K go x1 r0 z
  | _ => none
def c_X11_freeDiagram (vl : Nat → Nat) (K : Nat) : Nat → Nat → Int32 → Nat → ow_MS → Option (Nat × Int32 × ow_MS)
  | 0 => fun _ _ _ _ => none
  | k + 1 => cb_X11_freeDiagram vl K (c_X11_freeDiagram vl K k)
def ce_X11_freeDiagram (vl : Nat → Nat) (K : Nat) (r0 : Nat) (z : ow_MS) : Option (Nat × Int32 × ow_MS) := c_X11_freeDiagram vl K K 0 0 r0 z
abbrev wc_X11_freeDiagram : List Cond := .code yX11_freeDiagram cX11_freeDiagram 2 (some .int) :: wT
theorem cdd_X11_freeDiagram : yX11_freeDiagram.cls = RX11 ∧ yX11_freeDiagram.cls ≠ "java/lang/invoke/MethodHandle" ∧ yX11_freeDiagram.cls ≠ "java/lang/invoke/VarHandle" ∧ (parseMethodDescriptor yX11_freeDiagram.desc).map (fun d => d.parameters.length) = some 0 := by decide +kernel
set_option maxHeartbeats 4000000 in
set_option maxRecDepth 100000 in
theorem kc_X11_freeDiagram (l : Launch) (D : va_G) (q : Nat → ClassId) (vl u : Nat → Nat) (hU0 : tw_inj (cX vl) u) (hlt : l.stackTraces = false) (sa : Nat → Nat) (K : Nat) (r0 : Nat) (hr0 : cw_X11 r0) (z z1 : ow_MS) (k9 : Nat) (r : Int32) (hq : ce_X11_freeDiagram vl K r0 z = some (k9, r, z1)) : vx_Met l yX11_freeDiagram wc_X11_freeDiagram ({ frames := 6, cells := 1, slots := 6, locals := 90 } : Room) (va_Pc [.ref (u r0)] (cw_preT D q vl u sa z)) (va_Qi (fun x (_ : Unit) => k9 = 0 ∧ x = r) (fun _ t => va_P D vwCl (uw (cX vl) q u z1) t.heap) (tw_A (cX vl) u)) (ct_X D q vl u k9 z1) 1 6 (tw_A (cX vl) u) := by
  refine vx_ofW (cc := cX11_freeDiagram) (maxL := 2) (ret := (some .int)) (by decide) rfl ?_
  intro p e s m args below meth c s₁ B hml hex hv
  obtain ⟨rfl, hP, hK, hTh⟩ := hv
  have hx := B.exec
  have hb := B.bytes
  have hr := B.returns
  have hts := atoms_spec (ws := wc_X11_freeDiagram) B.pre
  have hT : ∀ w ∈ wC, w.before ([.ref (u r0)] : List Value).toArray s = true := fun w h => hts w (List.mem_cons_of_mem _ (wT_C w h))
  have hown : s.vm.findClass RX11 = some m.cls := findClass_of_methodNamed B.named
  have hlocks := B.notSynchronized
  have hU : uw_inj (cX vl) u (tw_A (cX vl) u) := ⟨hU0, fun h hh => ⟨h, hh, rfl⟩⟩
  have hM : uw_M D vwCl (cX vl) q (tw_A (cX vl) u) s.heap u z s.heap [] := ⟨hP, va_S.rf⟩
  have hl := lv_entry ([.ref (u r0)]) (n := 2) (Nat.le_of_ble_eq_true rfl)
  rw [lg_entry_eq]
  generalize (lg_sl ([.ref (u r0)]) ++ List.replicate (2 - (lg_sl ([.ref (u r0)])).length) Slot.unset).toArray = ls at hl ⊢
  have hl : lv_has ls 2 [(0, .ref (u r0))] := hl
  refine ow_named (fun QQ hQQ => ?_)
  generalize ([.ref (u r0)] : List Value).toArray = args at hts hT hQQ ⊢
  have key : ∀ k : Nat, (∀ (x1 : Int32) (r0 : Nat) (z : ow_MS) (H : Heap) (locs : List Loc) (ls : Array Slot), cw_X11 r0 → uw_M D vwCl (cX vl) q (tw_A (cX vl) u) s.heap u z H locs → lv_has ls 2 [(0, .ref (u r0))] → c_X11_freeDiagram vl K k 0 x1 r0 z = some (k9, r, z1) → W p l e ({ frames := 6, cells := 1, slots := 6, locals := 90 } : Room) s m args below meth c H locs 0 0 QQ (F0 m 0 ls [])) ∧ (∀ (x1 : Int32) (r0 : Nat) (z : ow_MS) (H : Heap) (locs : List Loc) (ls : Array Slot), cw_X11 r0 → uw_M D vwCl (cX vl) q (tw_A (cX vl) u) s.heap u z H locs → lv_has ls 2 [(0, .ref (u r0)), (1, .int x1)] → c_X11_freeDiagram vl K k 1 x1 r0 z = some (k9, r, z1) → W p l e ({ frames := 6, cells := 1, slots := 6, locals := 90 } : Room) s m args below meth c H locs 0 0 QQ (F0 m 2 ls [])) := by
    intro k
    induction k with
    | zero => exact ⟨fun _ _ _ _ _ _ _ _ _ hq => cw_no hq, fun _ _ _ _ _ _ _ _ _ hq => cw_no hq⟩
    | succ k ih =>
      obtain ⟨ih_0, ih_1⟩ := ih
      refine ⟨?_, ?_⟩
      · intro x1 r0 z H locs ls hr0 hM hl hq
        have hq : cm_X11_freeDiagram_0 vl K (c_X11_freeDiagram vl K k) x1 r0 z = some (k9, r, z1) := hq
        unfold cm_X11_freeDiagram_0 at hq
        refine lv_iconst (v := 0) hx hb dcX11_freeDiagram_0 (by decide) ?_
        refine lv_istore_n (lv' := [(1, .int 0), (0, .ref (u r0))]) hx hb dcX11_freeDiagram_1 rfl hl (by decide) rfl (fun ls hl => ?_)
        refine W.widen (k := 0) (n := 0) (Nat.le_of_ble_eq_true rfl) (Nat.le_of_ble_eq_true rfl) ?_
        exact ih_1 0 r0 z H locs ls hr0 hM (lv_sub hl [1, 0] rfl) hq
      · intro x1 r0 z H locs ls hr0 hM hl hq
        have hq : cm_X11_freeDiagram_1 vl K (c_X11_freeDiagram vl K k) x1 r0 z = some (k9, r, z1) := hq
        unfold cm_X11_freeDiagram_1 at hq
        refine lv_iload_n hx hb dcX11_freeDiagram_2 rfl (lv_at hl 1 rfl) ?_
        refine lv_bipush (v := 40) hx hb dcX11_freeDiagram_3 (by decide) ?_
        refine lv_icmp_ge (tgt := 28) hx hb dcX11_freeDiagram_5 (by decide) (fun hc => ?_) (fun hc => ?_)
        · have hq := tw_it hq hc
          obtain ⟨rfl, h9⟩ := Prod.mk.inj (Option.some.inj hq)
          obtain ⟨rfl, rfl⟩ := Prod.mk.inj h9
          exact ct_throw (k := 3) (text := "no place is free for a diagram") (cls := "java/lang/IllegalStateException") hx hb hlt hown hex hlocks (by rw [hml]; exact hl.1.symm) hTh (List.mem_of_getElem? (i := 5) rfl) rfl (by decide) (by decide +kernel) (hts _ (List.mem_cons_of_mem _ wT_k3)) (hts _ (List.mem_cons_of_mem _ wT_i3)) (fun w h => hts w (List.mem_cons_of_mem _ (wT_3 w h))) th9_3 tg9_3 hM dcX11_freeDiagram_28 dcX11_freeDiagram_31 dcX11_freeDiagram_32 dcX11_freeDiagram_34 dcX11_freeDiagram_37 hQQ (Nat.le_of_ble_eq_true rfl) (Nat.le_of_ble_eq_true rfl) (Nat.le_of_ble_eq_true rfl) (Nat.le_of_ble_eq_true rfl) (Nat.le_of_ble_eq_true rfl) (Nat.le_of_ble_eq_true rfl)
        · have hq := tw_if hq hc
          refine lv_aload_n hx hb dcX11_freeDiagram_8 rfl (lv_at hl 0 rfl) ?_
          refine vgX11_14 hx hb hT hown hK hM hr0 dcX11_freeDiagram_9 ?_
          refine vgX11_158 hx hb hT hown hK hM (cs_X11_0 hr0) dcX11_freeDiagram_12 ?_
          refine lv_iload_n hx hb dcX11_freeDiagram_15 rfl (lv_at hl 1 rfl) ?_
          refine uw_bald cX_ok hx hb hK hM (cr_X3_1 (cs_X11_0 hr0)) hq dcX11_freeDiagram_16 (fun v1 hq => ?_)
          refine lv_if_ne (tgt := 22) hx hb dcX11_freeDiagram_17 (by decide) (fun hc => ?_) (fun hc => ?_)
          · have hq := tw_if hq hc
            refine lv_iinc (v := (x1 + 1)) (lv' := [(1, .int (x1 + 1)), (0, .ref (u r0))]) hx hb dcX11_freeDiagram_22 hl (k := 1) rfl rfl (by decide) rfl (fun ls hl => ?_)
            refine lv_goto (tgt := 2) hx hb dcX11_freeDiagram_25 (by decide) ?_
            refine W.widen (k := 0) (n := 0) (Nat.le_of_ble_eq_true rfl) (Nat.le_of_ble_eq_true rfl) ?_
            exact ih_1 (x1 + 1) r0 z H locs ls hr0 hM (lv_sub hl [1, 0] rfl) hq
          · have hq := tw_it hq hc
            refine lv_iload_n hx hb dcX11_freeDiagram_20 rfl (lv_at hl 1 rfl) ?_
            exact ct_iret hx hb hr hlocks hM hq hQQ (Nat.le_of_ble_eq_true rfl) (Nat.le_of_ble_eq_true rfl) dcX11_freeDiagram_21
  exact (key K).1 0 r0 z s.heap [] ls hr0 hM (lv_sub hl [0] rfl) hq
theorem dcX11_diagram_0 : decode cX11_diagram 0 = .ok (.aload_n 0, 1) := dw_at cX11_diagram_k0 (p := 0) rfl (by decide +kernel)
theorem dcX11_diagram_1 : decode cX11_diagram 1 = .ok (.invokevirtual 133, 3) := dw_at cX11_diagram_k0 (p := 1) rfl (by decide +kernel)
theorem dcX11_diagram_4 : decode cX11_diagram 4 = .ok (.istore_n 1, 1) := dw_at cX11_diagram_k0 (p := 4) rfl (by decide +kernel)
theorem dcX11_diagram_5 : decode cX11_diagram 5 = .ok (.aload_n 0, 1) := dw_at cX11_diagram_k0 (p := 5) rfl (by decide +kernel)
theorem dcX11_diagram_6 : decode cX11_diagram 6 = .ok (.getfield 51, 3) := dw_at cX11_diagram_k0 (p := 6) rfl (by decide +kernel)
theorem dcX11_diagram_9 : decode cX11_diagram 9 = .ok (.aload_n 0, 1) := dw_at cX11_diagram_k0 (p := 9) rfl (by decide +kernel)
theorem dcX11_diagram_10 : decode cX11_diagram 10 = .ok (.getfield 27, 3) := dw_at cX11_diagram_k0 (p := 10) rfl (by decide +kernel)
theorem dcX11_diagram_13 : decode cX11_diagram 13 = .ok (.invokevirtual 137, 3) := dw_at cX11_diagram_k0 (p := 13) rfl (by decide +kernel)
theorem dcX11_diagram_16 : decode cX11_diagram 16 = .ok (.istore_n 2, 1) := dw_at cX11_diagram_k0 (p := 16) rfl (by decide +kernel)
theorem dcX11_diagram_17 : decode cX11_diagram 17 = .ok (.iload_n 2, 1) := dw_at cX11_diagram_k0 (p := 17) rfl (by decide +kernel)
theorem dcX11_diagram_18 : decode cX11_diagram 18 = .ok (.iconst (-1), 1) := dw_at cX11_diagram_k0 (p := 18) rfl (by decide +kernel)
theorem dcX11_diagram_19 : decode cX11_diagram 19 = .ok (.if_icmp .ne 25, 3) := dw_at cX11_diagram_k0 (p := 19) rfl (by decide +kernel)
theorem dcX11_diagram_22 : decode cX11_diagram 22 = .ok (.aload_n 0, 1) := dw_at cX11_diagram_k0 (p := 22) rfl (by decide +kernel)
theorem dcX11_diagram_23 : decode cX11_diagram 23 = .ok (.getfield 37, 3) := dw_at cX11_diagram_k0 (p := 23) rfl (by decide +kernel)
theorem dcX11_diagram_26 : decode cX11_diagram 26 = .ok (.aload_n 0, 1) := dw_at cX11_diagram_k1 (p := 0) rfl (by decide +kernel)
theorem dcX11_diagram_27 : decode cX11_diagram 27 = .ok (.getfield 27, 3) := dw_at cX11_diagram_k1 (p := 1) rfl (by decide +kernel)
theorem dcX11_diagram_30 : decode cX11_diagram 30 = .ok (.invokevirtual 141, 3) := dw_at cX11_diagram_k1 (p := 4) rfl (by decide +kernel)
theorem dcX11_diagram_33 : decode cX11_diagram 33 = .ok (.ifCond .ne 11, 3) := dw_at cX11_diagram_k1 (p := 7) rfl (by decide +kernel)
theorem dcX11_diagram_36 : decode cX11_diagram 36 = .ok (.aload_n 0, 1) := dw_at cX11_diagram_k1 (p := 10) rfl (by decide +kernel)
theorem dcX11_diagram_37 : decode cX11_diagram 37 = .ok (.getfield 51, 3) := dw_at cX11_diagram_k1 (p := 11) rfl (by decide +kernel)
theorem dcX11_diagram_40 : decode cX11_diagram 40 = .ok (.getfield 114, 3) := dw_at cX11_diagram_k1 (p := 14) rfl (by decide +kernel)
theorem dcX11_diagram_43 : decode cX11_diagram 43 = .ok (.istore_n 2, 1) := dw_at cX11_diagram_k1 (p := 17) rfl (by decide +kernel)
theorem dcX11_diagram_44 : decode cX11_diagram 44 = .ok (.aload_n 0, 1) := dw_at cX11_diagram_k1 (p := 18) rfl (by decide +kernel)
theorem dcX11_diagram_45 : decode cX11_diagram 45 = .ok (.getfield 51, 3) := dw_at cX11_diagram_k1 (p := 19) rfl (by decide +kernel)
theorem dcX11_diagram_48 : decode cX11_diagram 48 = .ok (.iconst 0, 1) := dw_at cX11_diagram_k1 (p := 22) rfl (by decide +kernel)
theorem dcX11_diagram_49 : decode cX11_diagram 49 = .ok (.putfield 114, 3) := dw_at cX11_diagram_k1 (p := 23) rfl (by decide +kernel)
theorem dcX11_diagram_52 : decode cX11_diagram 52 = .ok (.iload_n 2, 1) := dw_at cX11_diagram_k2 (p := 0) rfl (by decide +kernel)
theorem dcX11_diagram_53 : decode cX11_diagram 53 = .ok (.iconst (-1), 1) := dw_at cX11_diagram_k2 (p := 1) rfl (by decide +kernel)
theorem dcX11_diagram_54 : decode cX11_diagram 54 = .ok (.if_icmp .ne 11, 3) := dw_at cX11_diagram_k2 (p := 2) rfl (by decide +kernel)
theorem dcX11_diagram_57 : decode cX11_diagram 57 = .ok (.aload_n 0, 1) := dw_at cX11_diagram_k2 (p := 5) rfl (by decide +kernel)
theorem dcX11_diagram_58 : decode cX11_diagram 58 = .ok (.iload_n 1, 1) := dw_at cX11_diagram_k2 (p := 6) rfl (by decide +kernel)
theorem dcX11_diagram_59 : decode cX11_diagram 59 = .ok (.invokevirtual 145, 3) := dw_at cX11_diagram_k2 (p := 7) rfl (by decide +kernel)
theorem dcX11_diagram_62 : decode cX11_diagram 62 = .ok (.goto 6, 3) := dw_at cX11_diagram_k2 (p := 10) rfl (by decide +kernel)
theorem dcX11_diagram_65 : decode cX11_diagram 65 = .ok (.iconst (-1), 1) := dw_at cX11_diagram_k2 (p := 13) rfl (by decide +kernel)
theorem dcX11_diagram_66 : decode cX11_diagram 66 = .ok (.iload_n 2, 1) := dw_at cX11_diagram_k2 (p := 14) rfl (by decide +kernel)
theorem dcX11_diagram_67 : decode cX11_diagram 67 = .ok (.isub, 1) := dw_at cX11_diagram_k2 (p := 15) rfl (by decide +kernel)
theorem dcX11_diagram_68 : decode cX11_diagram 68 = .ok (.ireturn, 1) := dw_at cX11_diagram_k2 (p := 16) rfl (by decide +kernel)
def cm_X11_diagram_0 (vl : Nat → Nat) (K : Nat) (go : Nat → Int32 → Int32 → Nat → ow_MS → Option (Nat × Int32 × ow_MS)) (x1 : Int32) (x2 : Int32) (r0 : Nat) (z : ow_MS) : Option (Nat × Int32 × ow_MS) :=
 tc1 (ce_X11_freeDiagram vl K r0 z) (fun k z => some (k, 0, z)) fun v3 z1 => cs1 (ce_X9_readDiagram vl K (r0 + 11000) (r0 + 4000) z1) fun v5 z4 => (if v5 = (-1) then cs1 (ce_X4_isPlane vl K (r0 + 6000) (r0 + 4000) z4) fun v7 z6 => (if v7 = 0 then rdF z6 ((r0 + 11000) + 1) fun v8 => go 1 v3 v8 r0 z6
 else go 1 v3 v5 r0 z6)
 else go 1 v3 v5 r0 z4)
def cm_X11_diagram_1 (vl : Nat → Nat) (K : Nat) (go : Nat → Int32 → Int32 → Nat → ow_MS → Option (Nat × Int32 × ow_MS)) (x1 : Int32) (x2 : Int32) (r0 : Nat) (z : ow_MS) : Option (Nat × Int32 × ow_MS) :=
 wrF z ((r0 + 11000) + 1) 0 fun z9 => (if x2 = (-1) then cs1 (ce_X11_keep vl K r0 x1 z9) fun v11 z10 => some (0, v11, z10)
 else some (0, ((-1) - x2), z9))
def cb_X11_diagram (vl : Nat → Nat) (K : Nat) (go : Nat → Int32 → Int32 → Nat → ow_MS → Option (Nat × Int32 × ow_MS)) (L : Nat) (x1 : Int32) (x2 : Int32) (r0 : Nat) (z : ow_MS) : Option (Nat × Int32 × ow_MS) := match L with
  | 0 => cm_X11_diagram_0 vl K go x1 x2 r0 z
  | 1 => cm_X11_diagram_1 vl K go x1 x2 r0 z
  | _ => none
def c_X11_diagram (vl : Nat → Nat) (K : Nat) : Nat → Nat → Int32 → Int32 → Nat → ow_MS → Option (Nat × Int32 × ow_MS)
  | 0 => fun _ _ _ _ _ => none
  | k + 1 => cb_X11_diagram vl K (c_X11_diagram vl K k)
def ce_X11_diagram (vl : Nat → Nat) (K : Nat) (r0 : Nat) (z : ow_MS) : Option (Nat × Int32 × ow_MS) := c_X11_diagram vl K K 0 0 0 r0 z
abbrev wc_X11_diagram : List Cond := .code yX11_diagram cX11_diagram 3 (some .int) :: wT
theorem cdd_X11_diagram : yX11_diagram.cls = RX11 ∧ yX11_diagram.cls ≠ "java/lang/invoke/MethodHandle" ∧ yX11_diagram.cls ≠ "java/lang/invoke/VarHandle" ∧ (parseMethodDescriptor yX11_diagram.desc).map (fun d => d.parameters.length) = some 0 := by decide +kernel
set_option maxHeartbeats 4000000 in
set_option maxRecDepth 100000 in
theorem kc_X11_diagram (l : Launch) (D : va_G) (q : Nat → ClassId) (vl u : Nat → Nat) (hU0 : tw_inj (cX vl) u) (hlt : l.stackTraces = false) (sa : Nat → Nat) (K : Nat) (r0 : Nat) (hr0 : cw_X11 r0) (z z1 : ow_MS) (k9 : Nat) (r : Int32) (hq : ce_X11_diagram vl K r0 z = some (k9, r, z1)) : vx_Met l yX11_diagram wc_X11_diagram ({ frames := 7, cells := 1, slots := 6, locals := 176 } : Room) (va_Pc [.ref (u r0)] (cw_preT D q vl u sa z)) (va_Qi (fun x (_ : Unit) => k9 = 0 ∧ x = r) (fun _ t => va_P D vwCl (uw (cX vl) q u z1) t.heap) (tw_A (cX vl) u)) (ct_X D q vl u k9 z1) 1 6 (tw_A (cX vl) u) := by
  refine vx_ofW (cc := cX11_diagram) (maxL := 3) (ret := (some .int)) (by decide) rfl ?_
  intro p e s m args below meth c s₁ B hml hex hv
  obtain ⟨rfl, hP, hK, hTh⟩ := hv
  have hx := B.exec
  have hb := B.bytes
  have hr := B.returns
  have hts := atoms_spec (ws := wc_X11_diagram) B.pre
  have hT : ∀ w ∈ wC, w.before ([.ref (u r0)] : List Value).toArray s = true := fun w h => hts w (List.mem_cons_of_mem _ (wT_C w h))
  have hown : s.vm.findClass RX11 = some m.cls := findClass_of_methodNamed B.named
  have hlocks := B.notSynchronized
  have hU : uw_inj (cX vl) u (tw_A (cX vl) u) := ⟨hU0, fun h hh => ⟨h, hh, rfl⟩⟩
  have hM : uw_M D vwCl (cX vl) q (tw_A (cX vl) u) s.heap u z s.heap [] := ⟨hP, va_S.rf⟩
  have hl := lv_entry ([.ref (u r0)]) (n := 3) (Nat.le_of_ble_eq_true rfl)
  rw [lg_entry_eq]
  generalize (lg_sl ([.ref (u r0)]) ++ List.replicate (3 - (lg_sl ([.ref (u r0)])).length) Slot.unset).toArray = ls at hl ⊢
  have hl : lv_has ls 3 [(0, .ref (u r0))] := hl
  refine ow_named (fun QQ hQQ => ?_)
  generalize ([.ref (u r0)] : List Value).toArray = args at hts hT hQQ ⊢
  have key : ∀ k : Nat, (∀ (x1 : Int32) (x2 : Int32) (r0 : Nat) (z : ow_MS) (H : Heap) (locs : List Loc) (ls : Array Slot), cw_X11 r0 → uw_M D vwCl (cX vl) q (tw_A (cX vl) u) s.heap u z H locs → lv_has ls 3 [(0, .ref (u r0))] → c_X11_diagram vl K k 0 x1 x2 r0 z = some (k9, r, z1) → W p l e ({ frames := 7, cells := 1, slots := 6, locals := 176 } : Room) s m args below meth c H locs 0 0 QQ (F0 m 0 ls [])) ∧ (∀ (x1 : Int32) (x2 : Int32) (r0 : Nat) (z : ow_MS) (H : Heap) (locs : List Loc) (ls : Array Slot), cw_X11 r0 → uw_M D vwCl (cX vl) q (tw_A (cX vl) u) s.heap u z H locs → lv_has ls 3 [(0, .ref (u r0)), (1, .int x1), (2, .int x2)] → c_X11_diagram vl K k 1 x1 x2 r0 z = some (k9, r, z1) → W p l e ({ frames := 7, cells := 1, slots := 6, locals := 176 } : Room) s m args below meth c H locs 1 6 QQ (F0 m 44 ls [])) := by
    intro k
    induction k with
    | zero => exact ⟨fun _ _ _ _ _ _ _ _ _ _ hq => cw_no hq, fun _ _ _ _ _ _ _ _ _ _ hq => cw_no hq⟩
    | succ k ih =>
      obtain ⟨ih_0, ih_1⟩ := ih
      refine ⟨?_, ?_⟩
      · intro x1 x2 r0 z H locs ls hr0 hM hl hq
        have hq : cm_X11_diagram_0 vl K (c_X11_diagram vl K k) x1 x2 r0 z = some (k9, r, z1) := hq
        unfold cm_X11_diagram_0 at hq
        refine lv_aload_n hx hb dcX11_diagram_0 rfl (lv_at hl 0 rfl) ?_
        obtain ⟨k2, v3, z1, hcq, hq⟩ := ct_tc1 hq
        refine ct_cali hU hM (vx_runV (As := []) (rest := []) ⟨hx, hb, hml, hown, hts⟩ (kc_X11_freeDiagram l D q vl u hU.1 hlt sa K r0 hr0 z z1 k2 v3 hcq) (cwV 0 hts (tw_gV2 wT_good (fun _ h => h) (wT_C _ xq_770) (wT_C _ xq_771) (wT_C _ xq_772) (wT_C _ xq_773) (wT_C _ xq_774)) rfl rfl rfl cdd_X11_freeDiagram ⟨(Nat.le_of_ble_eq_true rfl), (Nat.le_of_ble_eq_true rfl)⟩) (ct_preV hK hTh hM (co_X11 hr0) rfl) rfl rfl hl.1 rfl (lv_room (Nat.le_of_ble_eq_true rfl)) dcX11_diagram_1 ⟨(Nat.le_of_ble_eq_true rfl), (Nat.le_of_ble_eq_true rfl)⟩) (fun E ce q9 H locs hk hE hM hce hcv hcl => ?_) (fun H locs hk hM => ?_)
        · have hq := tw_if hq hk
          obtain ⟨rfl, h9⟩ := Prod.mk.inj (Option.some.inj hq)
          obtain ⟨rfl, rfl⟩ := Prod.mk.inj h9
          exact ct_out hex hlocks hk hE hM hce hcv hcl hQQ (Nat.le_of_ble_eq_true rfl) (Nat.le_of_ble_eq_true rfl)
        have hq := tw_it hq hk
        refine lv_istore_n (lv' := [(1, .int v3), (0, .ref (u r0))]) hx hb dcX11_diagram_4 rfl hl (by decide) rfl (fun ls hl => ?_)
        refine lv_aload_n hx hb dcX11_diagram_5 rfl (lv_at hl 1 rfl) ?_
        refine vgX11_51 hx hb hT hown hK hM hr0 dcX11_diagram_6 ?_
        refine lv_aload_n hx hb dcX11_diagram_9 rfl (lv_at hl 1 rfl) ?_
        refine vgX11_27 hx hb hT hown hK hM hr0 dcX11_diagram_10 ?_
        obtain ⟨v5, z4, hcq, hq⟩ := tw_cl1 hq
        refine uw_cali hU hM (va_runV (As := [.ref (u (r0 + 4000))]) (rest := []) ⟨hx, hb, hml, hown, hts⟩ (kc_X9_readDiagram l D q vl u hU.1 K (r0 + 11000) (r0 + 4000) (cs_X11_7 hr0) (cs_X11_3 hr0) z1 z4 v5 hcq) (cwV 1 hts (tw_gV2 wT_good wT_C (wT_C _ xq_777) (wT_C _ xq_778) (wT_C _ xq_779) (wT_C _ xq_673) (wT_C _ xq_692)) rfl rfl rfl cdd_X9_readDiagram ⟨(Nat.le_of_ble_eq_true rfl), (Nat.le_of_ble_eq_true rfl)⟩) (cw_preV hK hM (co_X9 (cs_X11_7 hr0)) rfl) rfl rfl hl.1 rfl (lv_room (Nat.le_of_ble_eq_true rfl)) dcX11_diagram_13 ⟨(Nat.le_of_ble_eq_true rfl), (Nat.le_of_ble_eq_true rfl)⟩) (fun H locs hM => ?_)
        refine lv_istore_n (lv' := [(2, .int v5), (1, .int v3), (0, .ref (u r0))]) hx hb dcX11_diagram_16 rfl hl (by decide) rfl (fun ls hl => ?_)
        refine lv_iload_n hx hb dcX11_diagram_17 rfl (lv_at hl 0 rfl) ?_
        refine lv_iconst (v := (-1)) hx hb dcX11_diagram_18 (by decide) ?_
        refine lv_icmp_ne (tgt := 44) hx hb dcX11_diagram_19 (by decide) (fun hc => ?_) (fun hc => ?_)
        · have hq := tw_if hq hc
          refine W.widen (k := 1) (n := 6) (Nat.le_of_ble_eq_true rfl) (Nat.le_of_ble_eq_true rfl) ?_
          exact ih_1 v3 v5 r0 z4 H locs ls hr0 hM (lv_sub hl [2, 1, 0] rfl) hq
        · have hq := tw_it hq hc
          refine lv_aload_n hx hb dcX11_diagram_22 rfl (lv_at hl 2 rfl) ?_
          refine vgX11_37 hx hb hT hown hK hM hr0 dcX11_diagram_23 ?_
          refine lv_aload_n hx hb dcX11_diagram_26 rfl (lv_at hl 2 rfl) ?_
          refine vgX11_27 hx hb hT hown hK hM hr0 dcX11_diagram_27 ?_
          obtain ⟨v7, z6, hcq, hq⟩ := tw_cl1 hq
          refine uw_cali hU hM (va_runV (As := [.ref (u (r0 + 4000))]) (rest := []) ⟨hx, hb, hml, hown, hts⟩ (kc_X4_isPlane l D q vl u hU.1 K (r0 + 6000) (r0 + 4000) (cs_X11_5 hr0) (cs_X11_3 hr0) z4 z6 v7 hcq) (cwV 1 hts (tw_gV2 wT_good wT_C (wT_C _ xq_780) (wT_C _ xq_529) (wT_C _ xq_530) (wT_C _ xq_350) (wT_C _ xq_357)) rfl rfl rfl cdd_X4_isPlane ⟨(Nat.le_of_ble_eq_true rfl), (Nat.le_of_ble_eq_true rfl)⟩) (cw_preV hK hM (co_X4 (cs_X11_5 hr0)) rfl) rfl rfl hl.1 rfl (lv_room (Nat.le_of_ble_eq_true rfl)) dcX11_diagram_30 ⟨(Nat.le_of_ble_eq_true rfl), (Nat.le_of_ble_eq_true rfl)⟩) (fun H locs hM => ?_)
          refine lv_if_ne (tgt := 44) hx hb dcX11_diagram_33 (by decide) (fun hc => ?_) (fun hc => ?_)
          · have hq := tw_if hq hc
            refine W.widen (k := 1) (n := 6) (Nat.le_of_ble_eq_true rfl) (Nat.le_of_ble_eq_true rfl) ?_
            exact ih_1 v3 v5 r0 z6 H locs ls hr0 hM (lv_sub hl [2, 1, 0] rfl) hq
          · have hq := tw_it hq hc
            refine lv_aload_n hx hb dcX11_diagram_36 rfl (lv_at hl 2 rfl) ?_
            refine vgX11_51 hx hb hT hown hK hM hr0 dcX11_diagram_37 ?_
            refine vgX11_114 hx hb hT hown hK hM (cs_X11_7 hr0) hq dcX11_diagram_40 (fun v8 hq => ?_)
            refine lv_istore_n (lv' := [(2, .int v8), (1, .int v3), (0, .ref (u r0))]) hx hb dcX11_diagram_43 rfl hl (by decide) rfl (fun ls hl => ?_)
            refine W.widen (k := 1) (n := 6) (Nat.le_of_ble_eq_true rfl) (Nat.le_of_ble_eq_true rfl) ?_
            exact ih_1 v3 v8 r0 z6 H locs ls hr0 hM (lv_sub hl [2, 1, 0] rfl) hq
      · intro x1 x2 r0 z H locs ls hr0 hM hl hq
        have hq : cm_X11_diagram_1 vl K (c_X11_diagram vl K k) x1 x2 r0 z = some (k9, r, z1) := hq
        unfold cm_X11_diagram_1 at hq
        refine lv_aload_n hx hb dcX11_diagram_44 rfl (lv_at hl 0 rfl) ?_
        refine vgX11_51 hx hb hT hown hK hM hr0 dcX11_diagram_45 ?_
        refine lv_iconst (v := 0) hx hb dcX11_diagram_48 (by decide) ?_
        refine vpX11_114 hx hb hT hown hK hM hU (cs_X11_7 hr0) hq dcX11_diagram_49 (fun z9 H locs hM hq => ?_)
        refine lv_iload_n hx hb dcX11_diagram_52 rfl (lv_at hl 2 rfl) ?_
        refine lv_iconst (v := (-1)) hx hb dcX11_diagram_53 (by decide) ?_
        refine lv_icmp_ne (tgt := 65) hx hb dcX11_diagram_54 (by decide) (fun hc => ?_) (fun hc => ?_)
        · have hq := tw_if hq hc
          refine lv_iconst (v := (-1)) hx hb dcX11_diagram_65 (by decide) ?_
          refine lv_iload_n hx hb dcX11_diagram_66 rfl (lv_at hl 2 rfl) ?_
          refine lv_isub hx hb dcX11_diagram_67 ?_
          exact ct_iret hx hb hr hlocks hM hq hQQ (Nat.le_of_ble_eq_true rfl) (Nat.le_of_ble_eq_true rfl) dcX11_diagram_68
        · have hq := tw_it hq hc
          refine lv_aload_n hx hb dcX11_diagram_57 rfl (lv_at hl 0 rfl) ?_
          refine lv_iload_n hx hb dcX11_diagram_58 rfl (lv_at hl 1 rfl) ?_
          obtain ⟨v11, z10, hcq, hq⟩ := tw_cl1 hq
          refine uw_cali hU hM (va_runV (As := [.int x1]) (rest := []) ⟨hx, hb, hml, hown, hts⟩ (kc_X11_keep l D q vl u hU.1 K r0 x1 hr0 z9 z10 v11 hcq) (cwV 1 hts (tw_gV2 wT_good wT_C (wT_C _ xq_781) (wT_C _ xq_782) (wT_C _ xq_783) (wT_C _ xq_773) (wT_C _ xq_784)) rfl rfl rfl cdd_X11_keep ⟨(Nat.le_of_ble_eq_true rfl), (Nat.le_of_ble_eq_true rfl)⟩) (cw_preV hK hM (co_X11 hr0) rfl) rfl rfl hl.1 rfl (lv_room (Nat.le_of_ble_eq_true rfl)) dcX11_diagram_59 ⟨(Nat.le_of_ble_eq_true rfl), (Nat.le_of_ble_eq_true rfl)⟩) (fun H locs hM => ?_)
          refine lv_goto (tgt := 68) hx hb dcX11_diagram_62 (by decide) ?_
          exact ct_iret hx hb hr hlocks hM hq hQQ (Nat.le_of_ble_eq_true rfl) (Nat.le_of_ble_eq_true rfl) dcX11_diagram_68
  exact (key K).1 0 0 r0 z s.heap [] ls hr0 hM (lv_sub hl [0] rfl) hq
theorem dcX11_freeBraid_0 : decode cX11_freeBraid 0 = .ok (.iconst 0, 1) := by decide +kernel
theorem dcX11_freeBraid_1 : decode cX11_freeBraid 1 = .ok (.istore_n 1, 1) := by decide +kernel
theorem dcX11_freeBraid_2 : decode cX11_freeBraid 2 = .ok (.iload_n 1, 1) := by decide +kernel
theorem dcX11_freeBraid_3 : decode cX11_freeBraid 3 = .ok (.bipush 20, 2) := by decide +kernel
theorem dcX11_freeBraid_5 : decode cX11_freeBraid 5 = .ok (.if_icmp .ge 20, 3) := by decide +kernel
theorem dcX11_freeBraid_8 : decode cX11_freeBraid 8 = .ok (.aload_n 0, 1) := by decide +kernel
theorem dcX11_freeBraid_9 : decode cX11_freeBraid 9 = .ok (.getfield 91, 3) := by decide +kernel
theorem dcX11_freeBraid_12 : decode cX11_freeBraid 12 = .ok (.iload_n 1, 1) := by decide +kernel
theorem dcX11_freeBraid_13 : decode cX11_freeBraid 13 = .ok (.iaload, 1) := by decide +kernel
theorem dcX11_freeBraid_14 : decode cX11_freeBraid 14 = .ok (.ifCond .ne 5, 3) := by decide +kernel
theorem dcX11_freeBraid_17 : decode cX11_freeBraid 17 = .ok (.iload_n 1, 1) := by decide +kernel
theorem dcX11_freeBraid_18 : decode cX11_freeBraid 18 = .ok (.ireturn, 1) := by decide +kernel
theorem dcX11_freeBraid_19 : decode cX11_freeBraid 19 = .ok (.iinc 1 1, 3) := by decide +kernel
theorem dcX11_freeBraid_22 : decode cX11_freeBraid 22 = .ok (.goto (-20), 3) := by decide +kernel
theorem dcX11_freeBraid_25 : decode cX11_freeBraid 25 = .ok (.new 118, 3) := by decide +kernel
theorem dcX11_freeBraid_28 : decode cX11_freeBraid 28 = .ok (.dup, 1) := by decide +kernel
theorem dcX11_freeBraid_29 : decode cX11_freeBraid 29 = .ok (.ldc 176, 2) := by decide +kernel
theorem dcX11_freeBraid_31 : decode cX11_freeBraid 31 = .ok (.invokespecial 122, 3) := by decide +kernel
theorem dcX11_freeBraid_34 : decode cX11_freeBraid 34 = .ok (.athrow, 1) := by decide +kernel
def cm_X11_freeBraid_0 (vl : Nat → Nat) (K : Nat) (go : Nat → Int32 → Nat → ow_MS → Option (Nat × Int32 × ow_MS)) (x1 : Int32) (r0 : Nat) (z : ow_MS) : Option (Nat × Int32 × ow_MS) :=
 go 1 0 r0 z
def cm_X11_freeBraid_1 (vl : Nat → Nat) (K : Nat) (go : Nat → Int32 → Nat → ow_MS → Option (Nat × Int32 × ow_MS)) (x1 : Int32) (r0 : Nat) (z : ow_MS) : Option (Nat × Int32 × ow_MS) :=
 (if 20 ≤ x1 then some (3, 0, z)
 else crI (cX vl) z (r0 + 15) x1 fun v1 => (if v1 = 0 then some (0, x1, z)
 else go 1 (x1 + 1) r0 z))
def cb_X11_freeBraid (vl : Nat → Nat) (K : Nat) (go : Nat → Int32 → Nat → ow_MS → Option (Nat × Int32 × ow_MS)) (L : Nat) (x1 : Int32) (r0 : Nat) (z : ow_MS) : Option (Nat × Int32 × ow_MS) := match L with
  | 0 => cm_X11_freeBraid_0 vl K go x1 r0 z
  | 1 => cm_X11_freeBraid_1 vl K go x1 r0 z
  | _ => none
def c_X11_freeBraid (vl : Nat → Nat) (K : Nat) : Nat → Nat → Int32 → Nat → ow_MS → Option (Nat × Int32 × ow_MS)
  | 0 => fun _ _ _ _ => none
  | k + 1 => cb_X11_freeBraid vl K (c_X11_freeBraid vl K k)
def ce_X11_freeBraid (vl : Nat → Nat) (K : Nat) (r0 : Nat) (z : ow_MS) : Option (Nat × Int32 × ow_MS) := c_X11_freeBraid vl K K 0 0 r0 z
abbrev wc_X11_freeBraid : List Cond := .code yX11_freeBraid cX11_freeBraid 2 (some .int) :: wT
theorem cdd_X11_freeBraid : yX11_freeBraid.cls = RX11 ∧ yX11_freeBraid.cls ≠ "java/lang/invoke/MethodHandle" ∧ yX11_freeBraid.cls ≠ "java/lang/invoke/VarHandle" ∧ (parseMethodDescriptor yX11_freeBraid.desc).map (fun d => d.parameters.length) = some 0 := by decide +kernel
set_option maxHeartbeats 4000000 in
set_option maxRecDepth 100000 in
theorem kc_X11_freeBraid (l : Launch) (D : va_G) (q : Nat → ClassId) (vl u : Nat → Nat) (hU0 : tw_inj (cX vl) u) (hlt : l.stackTraces = false) (sa : Nat → Nat) (K : Nat) (r0 : Nat) (hr0 : cw_X11 r0) (z z1 : ow_MS) (k9 : Nat) (r : Int32) (hq : ce_X11_freeBraid vl K r0 z = some (k9, r, z1)) : vx_Met l yX11_freeBraid wc_X11_freeBraid ({ frames := 6, cells := 1, slots := 6, locals := 90 } : Room) (va_Pc [.ref (u r0)] (cw_preT D q vl u sa z)) (va_Qi (fun x (_ : Unit) => k9 = 0 ∧ x = r) (fun _ t => va_P D vwCl (uw (cX vl) q u z1) t.heap) (tw_A (cX vl) u)) (ct_X D q vl u k9 z1) 1 6 (tw_A (cX vl) u) := by
  refine vx_ofW (cc := cX11_freeBraid) (maxL := 2) (ret := (some .int)) (by decide) rfl ?_
  intro p e s m args below meth c s₁ B hml hex hv
  obtain ⟨rfl, hP, hK, hTh⟩ := hv
  have hx := B.exec
  have hb := B.bytes
  have hr := B.returns
  have hts := atoms_spec (ws := wc_X11_freeBraid) B.pre
  have hT : ∀ w ∈ wC, w.before ([.ref (u r0)] : List Value).toArray s = true := fun w h => hts w (List.mem_cons_of_mem _ (wT_C w h))
  have hown : s.vm.findClass RX11 = some m.cls := findClass_of_methodNamed B.named
  have hlocks := B.notSynchronized
  have hU : uw_inj (cX vl) u (tw_A (cX vl) u) := ⟨hU0, fun h hh => ⟨h, hh, rfl⟩⟩
  have hM : uw_M D vwCl (cX vl) q (tw_A (cX vl) u) s.heap u z s.heap [] := ⟨hP, va_S.rf⟩
  have hl := lv_entry ([.ref (u r0)]) (n := 2) (Nat.le_of_ble_eq_true rfl)
  rw [lg_entry_eq]
  generalize (lg_sl ([.ref (u r0)]) ++ List.replicate (2 - (lg_sl ([.ref (u r0)])).length) Slot.unset).toArray = ls at hl ⊢
  have hl : lv_has ls 2 [(0, .ref (u r0))] := hl
  refine ow_named (fun QQ hQQ => ?_)
  generalize ([.ref (u r0)] : List Value).toArray = args at hts hT hQQ ⊢
  have key : ∀ k : Nat, (∀ (x1 : Int32) (r0 : Nat) (z : ow_MS) (H : Heap) (locs : List Loc) (ls : Array Slot), cw_X11 r0 → uw_M D vwCl (cX vl) q (tw_A (cX vl) u) s.heap u z H locs → lv_has ls 2 [(0, .ref (u r0))] → c_X11_freeBraid vl K k 0 x1 r0 z = some (k9, r, z1) → W p l e ({ frames := 6, cells := 1, slots := 6, locals := 90 } : Room) s m args below meth c H locs 0 0 QQ (F0 m 0 ls [])) ∧ (∀ (x1 : Int32) (r0 : Nat) (z : ow_MS) (H : Heap) (locs : List Loc) (ls : Array Slot), cw_X11 r0 → uw_M D vwCl (cX vl) q (tw_A (cX vl) u) s.heap u z H locs → lv_has ls 2 [(0, .ref (u r0)), (1, .int x1)] → c_X11_freeBraid vl K k 1 x1 r0 z = some (k9, r, z1) → W p l e ({ frames := 6, cells := 1, slots := 6, locals := 90 } : Room) s m args below meth c H locs 0 0 QQ (F0 m 2 ls [])) := by
    intro k
    induction k with
    | zero => exact ⟨fun _ _ _ _ _ _ _ _ _ hq => cw_no hq, fun _ _ _ _ _ _ _ _ _ hq => cw_no hq⟩
    | succ k ih =>
      obtain ⟨ih_0, ih_1⟩ := ih
      refine ⟨?_, ?_⟩
      · intro x1 r0 z H locs ls hr0 hM hl hq
        have hq : cm_X11_freeBraid_0 vl K (c_X11_freeBraid vl K k) x1 r0 z = some (k9, r, z1) := hq
        unfold cm_X11_freeBraid_0 at hq
        refine lv_iconst (v := 0) hx hb dcX11_freeBraid_0 (by decide) ?_
        refine lv_istore_n (lv' := [(1, .int 0), (0, .ref (u r0))]) hx hb dcX11_freeBraid_1 rfl hl (by decide) rfl (fun ls hl => ?_)
        refine W.widen (k := 0) (n := 0) (Nat.le_of_ble_eq_true rfl) (Nat.le_of_ble_eq_true rfl) ?_
        exact ih_1 0 r0 z H locs ls hr0 hM (lv_sub hl [1, 0] rfl) hq
      · intro x1 r0 z H locs ls hr0 hM hl hq
        have hq : cm_X11_freeBraid_1 vl K (c_X11_freeBraid vl K k) x1 r0 z = some (k9, r, z1) := hq
        unfold cm_X11_freeBraid_1 at hq
        refine lv_iload_n hx hb dcX11_freeBraid_2 rfl (lv_at hl 1 rfl) ?_
        refine lv_bipush (v := 20) hx hb dcX11_freeBraid_3 (by decide) ?_
        refine lv_icmp_ge (tgt := 25) hx hb dcX11_freeBraid_5 (by decide) (fun hc => ?_) (fun hc => ?_)
        · have hq := tw_it hq hc
          obtain ⟨rfl, h9⟩ := Prod.mk.inj (Option.some.inj hq)
          obtain ⟨rfl, rfl⟩ := Prod.mk.inj h9
          exact ct_throw (k := 3) (text := "no place is free for a braid") (cls := "java/lang/IllegalStateException") hx hb hlt hown hex hlocks (by rw [hml]; exact hl.1.symm) hTh (List.mem_of_getElem? (i := 6) rfl) rfl (by decide) (by decide +kernel) (hts _ (List.mem_cons_of_mem _ wT_k3)) (hts _ (List.mem_cons_of_mem _ wT_i3)) (fun w h => hts w (List.mem_cons_of_mem _ (wT_3 w h))) th9_3 tg9_3 hM dcX11_freeBraid_25 dcX11_freeBraid_28 dcX11_freeBraid_29 dcX11_freeBraid_31 dcX11_freeBraid_34 hQQ (Nat.le_of_ble_eq_true rfl) (Nat.le_of_ble_eq_true rfl) (Nat.le_of_ble_eq_true rfl) (Nat.le_of_ble_eq_true rfl) (Nat.le_of_ble_eq_true rfl) (Nat.le_of_ble_eq_true rfl)
        · have hq := tw_if hq hc
          refine lv_aload_n hx hb dcX11_freeBraid_8 rfl (lv_at hl 0 rfl) ?_
          refine vgX11_91 hx hb hT hown hK hM hr0 dcX11_freeBraid_9 ?_
          refine lv_iload_n hx hb dcX11_freeBraid_12 rfl (lv_at hl 1 rfl) ?_
          refine uw_iald cX_ok hx hb hK hM (cr_X11_14 hr0) hq dcX11_freeBraid_13 (fun v1 hq => ?_)
          refine lv_if_ne (tgt := 19) hx hb dcX11_freeBraid_14 (by decide) (fun hc => ?_) (fun hc => ?_)
          · have hq := tw_if hq hc
            refine lv_iinc (v := (x1 + 1)) (lv' := [(1, .int (x1 + 1)), (0, .ref (u r0))]) hx hb dcX11_freeBraid_19 hl (k := 1) rfl rfl (by decide) rfl (fun ls hl => ?_)
            refine lv_goto (tgt := 2) hx hb dcX11_freeBraid_22 (by decide) ?_
            refine W.widen (k := 0) (n := 0) (Nat.le_of_ble_eq_true rfl) (Nat.le_of_ble_eq_true rfl) ?_
            exact ih_1 (x1 + 1) r0 z H locs ls hr0 hM (lv_sub hl [1, 0] rfl) hq
          · have hq := tw_it hq hc
            refine lv_iload_n hx hb dcX11_freeBraid_17 rfl (lv_at hl 1 rfl) ?_
            exact ct_iret hx hb hr hlocks hM hq hQQ (Nat.le_of_ble_eq_true rfl) (Nat.le_of_ble_eq_true rfl) dcX11_freeBraid_18
  exact (key K).1 0 r0 z s.heap [] ls hr0 hM (lv_sub hl [0] rfl) hq
theorem dcX11_braid_0 : decode cX11_braid 0 = .ok (.iload_n 1, 1) := dw_at cX11_braid_k0 (p := 0) rfl (by decide +kernel)
theorem dcX11_braid_1 : decode cX11_braid 1 = .ok (.iconst 2, 1) := dw_at cX11_braid_k0 (p := 1) rfl (by decide +kernel)
theorem dcX11_braid_2 : decode cX11_braid 2 = .ok (.if_icmp .lt 8, 3) := dw_at cX11_braid_k0 (p := 2) rfl (by decide +kernel)
theorem dcX11_braid_5 : decode cX11_braid 5 = .ok (.iload_n 1, 1) := dw_at cX11_braid_k0 (p := 5) rfl (by decide +kernel)
theorem dcX11_braid_6 : decode cX11_braid 6 = .ok (.iconst 5, 1) := dw_at cX11_braid_k0 (p := 6) rfl (by decide +kernel)
theorem dcX11_braid_7 : decode cX11_braid 7 = .ok (.if_icmp .le 13, 3) := dw_at cX11_braid_k0 (p := 7) rfl (by decide +kernel)
theorem dcX11_braid_10 : decode cX11_braid 10 = .ok (.new 128, 3) := dw_at cX11_braid_k0 (p := 10) rfl (by decide +kernel)
theorem dcX11_braid_13 : decode cX11_braid 13 = .ok (.dup, 1) := dw_at cX11_braid_k0 (p := 13) rfl (by decide +kernel)
theorem dcX11_braid_14 : decode cX11_braid 14 = .ok (.ldc 149, 2) := dw_at cX11_braid_k0 (p := 14) rfl (by decide +kernel)
theorem dcX11_braid_16 : decode cX11_braid 16 = .ok (.invokespecial 132, 3) := dw_at cX11_braid_k0 (p := 16) rfl (by decide +kernel)
theorem dcX11_braid_19 : decode cX11_braid 19 = .ok (.athrow, 1) := dw_at cX11_braid_k0 (p := 19) rfl (by decide +kernel)
theorem dcX11_braid_20 : decode cX11_braid 20 = .ok (.aload_n 0, 1) := dw_at cX11_braid_k0 (p := 20) rfl (by decide +kernel)
theorem dcX11_braid_21 : decode cX11_braid 21 = .ok (.invokevirtual 151, 3) := dw_at cX11_braid_k0 (p := 21) rfl (by decide +kernel)
theorem dcX11_braid_24 : decode cX11_braid 24 = .ok (.istore_n 2, 1) := dw_at cX11_braid_k1 (p := 0) rfl (by decide +kernel)
theorem dcX11_braid_25 : decode cX11_braid 25 = .ok (.aload_n 0, 1) := dw_at cX11_braid_k1 (p := 1) rfl (by decide +kernel)
theorem dcX11_braid_26 : decode cX11_braid 26 = .ok (.getfield 51, 3) := dw_at cX11_braid_k1 (p := 2) rfl (by decide +kernel)
theorem dcX11_braid_29 : decode cX11_braid 29 = .ok (.getfield 114, 3) := dw_at cX11_braid_k1 (p := 5) rfl (by decide +kernel)
theorem dcX11_braid_32 : decode cX11_braid 32 = .ok (.istore_n 3, 1) := dw_at cX11_braid_k1 (p := 8) rfl (by decide +kernel)
theorem dcX11_braid_33 : decode cX11_braid 33 = .ok (.aload_n 0, 1) := dw_at cX11_braid_k1 (p := 9) rfl (by decide +kernel)
theorem dcX11_braid_34 : decode cX11_braid 34 = .ok (.getfield 51, 3) := dw_at cX11_braid_k1 (p := 10) rfl (by decide +kernel)
theorem dcX11_braid_37 : decode cX11_braid 37 = .ok (.iload_n 1, 1) := dw_at cX11_braid_k1 (p := 13) rfl (by decide +kernel)
theorem dcX11_braid_38 : decode cX11_braid 38 = .ok (.aload_n 0, 1) := dw_at cX11_braid_k1 (p := 14) rfl (by decide +kernel)
theorem dcX11_braid_39 : decode cX11_braid 39 = .ok (.getfield 83, 3) := dw_at cX11_braid_k1 (p := 15) rfl (by decide +kernel)
theorem dcX11_braid_42 : decode cX11_braid 42 = .ok (.iload_n 2, 1) := dw_at cX11_braid_k1 (p := 18) rfl (by decide +kernel)
theorem dcX11_braid_43 : decode cX11_braid 43 = .ok (.bipush 16, 2) := dw_at cX11_braid_k1 (p := 19) rfl (by decide +kernel)
theorem dcX11_braid_45 : decode cX11_braid 45 = .ok (.imul, 1) := dw_at cX11_braid_k1 (p := 21) rfl (by decide +kernel)
theorem dcX11_braid_46 : decode cX11_braid 46 = .ok (.invokevirtual 154, 3) := dw_at cX11_braid_k1 (p := 22) rfl (by decide +kernel)
theorem dcX11_braid_49 : decode cX11_braid 49 = .ok (.istore 4, 2) := dw_at cX11_braid_k2 (p := 0) rfl (by decide +kernel)
theorem dcX11_braid_51 : decode cX11_braid 51 = .ok (.aload_n 0, 1) := dw_at cX11_braid_k2 (p := 2) rfl (by decide +kernel)
theorem dcX11_braid_52 : decode cX11_braid 52 = .ok (.getfield 51, 3) := dw_at cX11_braid_k2 (p := 3) rfl (by decide +kernel)
theorem dcX11_braid_55 : decode cX11_braid 55 = .ok (.iconst 0, 1) := dw_at cX11_braid_k2 (p := 6) rfl (by decide +kernel)
theorem dcX11_braid_56 : decode cX11_braid 56 = .ok (.putfield 114, 3) := dw_at cX11_braid_k2 (p := 7) rfl (by decide +kernel)
theorem dcX11_braid_59 : decode cX11_braid 59 = .ok (.iload 4, 2) := dw_at cX11_braid_k2 (p := 10) rfl (by decide +kernel)
theorem dcX11_braid_61 : decode cX11_braid 61 = .ok (.iconst (-1), 1) := dw_at cX11_braid_k2 (p := 12) rfl (by decide +kernel)
theorem dcX11_braid_62 : decode cX11_braid 62 = .ok (.if_icmp .eq 8, 3) := dw_at cX11_braid_k2 (p := 13) rfl (by decide +kernel)
theorem dcX11_braid_65 : decode cX11_braid 65 = .ok (.iconst (-1), 1) := dw_at cX11_braid_k2 (p := 16) rfl (by decide +kernel)
theorem dcX11_braid_66 : decode cX11_braid 66 = .ok (.iload 4, 2) := dw_at cX11_braid_k2 (p := 17) rfl (by decide +kernel)
theorem dcX11_braid_68 : decode cX11_braid 68 = .ok (.isub, 1) := dw_at cX11_braid_k2 (p := 19) rfl (by decide +kernel)
theorem dcX11_braid_69 : decode cX11_braid 69 = .ok (.ireturn, 1) := dw_at cX11_braid_k2 (p := 20) rfl (by decide +kernel)
theorem dcX11_braid_70 : decode cX11_braid 70 = .ok (.aload_n 0, 1) := dw_at cX11_braid_k2 (p := 21) rfl (by decide +kernel)
theorem dcX11_braid_71 : decode cX11_braid 71 = .ok (.getfield 87, 3) := dw_at cX11_braid_k2 (p := 22) rfl (by decide +kernel)
theorem dcX11_braid_74 : decode cX11_braid 74 = .ok (.iload_n 2, 1) := dw_at cX11_braid_k3 (p := 0) rfl (by decide +kernel)
theorem dcX11_braid_75 : decode cX11_braid 75 = .ok (.iload_n 3, 1) := dw_at cX11_braid_k3 (p := 1) rfl (by decide +kernel)
theorem dcX11_braid_76 : decode cX11_braid 76 = .ok (.iastore, 1) := dw_at cX11_braid_k3 (p := 2) rfl (by decide +kernel)
theorem dcX11_braid_77 : decode cX11_braid 77 = .ok (.aload_n 0, 1) := dw_at cX11_braid_k3 (p := 3) rfl (by decide +kernel)
theorem dcX11_braid_78 : decode cX11_braid 78 = .ok (.getfield 91, 3) := dw_at cX11_braid_k3 (p := 4) rfl (by decide +kernel)
theorem dcX11_braid_81 : decode cX11_braid 81 = .ok (.iload_n 2, 1) := dw_at cX11_braid_k3 (p := 7) rfl (by decide +kernel)
theorem dcX11_braid_82 : decode cX11_braid 82 = .ok (.iload_n 1, 1) := dw_at cX11_braid_k3 (p := 8) rfl (by decide +kernel)
theorem dcX11_braid_83 : decode cX11_braid 83 = .ok (.iastore, 1) := dw_at cX11_braid_k3 (p := 9) rfl (by decide +kernel)
theorem dcX11_braid_84 : decode cX11_braid 84 = .ok (.iload_n 2, 1) := dw_at cX11_braid_k3 (p := 10) rfl (by decide +kernel)
theorem dcX11_braid_85 : decode cX11_braid 85 = .ok (.ireturn, 1) := dw_at cX11_braid_k3 (p := 11) rfl (by decide +kernel)
def cm_X11_braid_0 (vl : Nat → Nat) (K : Nat) (x1 : Int32) (r0 : Nat) (z : ow_MS) : Option (Nat × Int32 × ow_MS) :=
 (if x1 < 2 then some (2, 0, z)
 else (if x1 ≤ 5 then tc1 (ce_X11_freeBraid vl K r0 z) (fun k z => some (k, 0, z)) fun v3 z1 => rdF z1 ((r0 + 11000) + 1) fun v4 => cs1 (ce_X9_readBraid vl K (r0 + 11000) x1 (r0 + 13) (v3 * 16) z1) fun v6 z5 => wrF z5 ((r0 + 11000) + 1) 0 fun z7 => (if v6 = (-1) then ctI (cX vl) z7 (r0 + 14) v3 v4 fun z8 => ctI (cX vl) z8 (r0 + 15) v3 x1 fun z9 => some (0, v3, z9)
 else some (0, ((-1) - v6), z7))
 else some (2, 0, z)))
def ce_X11_braid (vl : Nat → Nat) (K : Nat) (r0 : Nat) (x1 : Int32) (z : ow_MS) : Option (Nat × Int32 × ow_MS) := cm_X11_braid_0 vl K x1 r0 z
abbrev wc_X11_braid : List Cond := .code yX11_braid cX11_braid 5 (some .int) :: wT
theorem cdd_X11_braid : yX11_braid.cls = RX11 ∧ yX11_braid.cls ≠ "java/lang/invoke/MethodHandle" ∧ yX11_braid.cls ≠ "java/lang/invoke/VarHandle" ∧ (parseMethodDescriptor yX11_braid.desc).map (fun d => d.parameters.length) = some 1 := by decide +kernel
set_option maxHeartbeats 4000000 in
set_option maxRecDepth 100000 in
theorem kc_X11_braid (l : Launch) (D : va_G) (q : Nat → ClassId) (vl u : Nat → Nat) (hU0 : tw_inj (cX vl) u) (hlt : l.stackTraces = false) (sa : Nat → Nat) (K : Nat) (r0 : Nat) (x1 : Int32) (hr0 : cw_X11 r0) (z z1 : ow_MS) (k9 : Nat) (r : Int32) (hq : ce_X11_braid vl K r0 x1 z = some (k9, r, z1)) : vx_Met l yX11_braid wc_X11_braid ({ frames := 7, cells := 2, slots := 12, locals := 111 } : Room) (va_Pc [.ref (u r0), .int x1] (cw_preT D q vl u sa z)) (va_Qi (fun x (_ : Unit) => k9 = 0 ∧ x = r) (fun _ t => va_P D vwCl (uw (cX vl) q u z1) t.heap) (tw_A (cX vl) u)) (ct_X D q vl u k9 z1) 2 12 (tw_A (cX vl) u) := by
  refine vx_ofW (cc := cX11_braid) (maxL := 5) (ret := (some .int)) (by decide) rfl ?_
  intro p e s m args below meth c s₁ B hml hex hv
  obtain ⟨rfl, hP, hK, hTh⟩ := hv
  have hx := B.exec
  have hb := B.bytes
  have hr := B.returns
  have hts := atoms_spec (ws := wc_X11_braid) B.pre
  have hT : ∀ w ∈ wC, w.before ([.ref (u r0), .int x1] : List Value).toArray s = true := fun w h => hts w (List.mem_cons_of_mem _ (wT_C w h))
  have hown : s.vm.findClass RX11 = some m.cls := findClass_of_methodNamed B.named
  have hlocks := B.notSynchronized
  have hU : uw_inj (cX vl) u (tw_A (cX vl) u) := ⟨hU0, fun h hh => ⟨h, hh, rfl⟩⟩
  have hM : uw_M D vwCl (cX vl) q (tw_A (cX vl) u) s.heap u z s.heap [] := ⟨hP, va_S.rf⟩
  have hl := lv_entry ([.ref (u r0), .int x1]) (n := 5) (Nat.le_of_ble_eq_true rfl)
  rw [lg_entry_eq]
  generalize (lg_sl ([.ref (u r0), .int x1]) ++ List.replicate (5 - (lg_sl ([.ref (u r0), .int x1])).length) Slot.unset).toArray = ls at hl ⊢
  have hl : lv_has ls 5 [(0, .ref (u r0)), (1, .int x1)] := hl
  refine ow_named (fun QQ hQQ => ?_)
  generalize ([.ref (u r0), .int x1] : List Value).toArray = args at hts hT hQQ ⊢
  have hq : cm_X11_braid_0 vl K x1 r0 z = some (k9, r, z1) := hq
  unfold cm_X11_braid_0 at hq
  suffices key : ∀ (H : Heap) (locs : List Loc), uw_M D vwCl (cX vl) q (tw_A (cX vl) u) s.heap u z H locs → W p l e ({ frames := 7, cells := 2, slots := 12, locals := 111 } : Room) s m args below meth c H locs 0 0 QQ (F0 m 0 ls []) from key s.heap [] hM
  intro H locs hM
  refine lv_iload_n hx hb dcX11_braid_0 rfl (lv_at hl 1 rfl) ?_
  refine lv_iconst (v := 2) hx hb dcX11_braid_1 (by decide) ?_
  refine lv_icmp_lt (tgt := 10) hx hb dcX11_braid_2 (by decide) (fun hc => ?_) (fun hc => ?_)
  · have hq := tw_it hq hc
    obtain ⟨rfl, h9⟩ := Prod.mk.inj (Option.some.inj hq)
    obtain ⟨rfl, rfl⟩ := Prod.mk.inj h9
    exact ct_throw (k := 2) (text := "a braid has 2 to 5 strands") (cls := "java/lang/IllegalArgumentException") hx hb hlt hown hex hlocks (by rw [hml]; exact hl.1.symm) hTh (List.mem_of_getElem? (i := 2) rfl) rfl (by decide) (by decide +kernel) (hts _ (List.mem_cons_of_mem _ wT_k2)) (hts _ (List.mem_cons_of_mem _ wT_i2)) (fun w h => hts w (List.mem_cons_of_mem _ (wT_2 w h))) th9_2 tg9_2 hM dcX11_braid_10 dcX11_braid_13 dcX11_braid_14 dcX11_braid_16 dcX11_braid_19 hQQ (Nat.le_of_ble_eq_true rfl) (Nat.le_of_ble_eq_true rfl) (Nat.le_of_ble_eq_true rfl) (Nat.le_of_ble_eq_true rfl) (Nat.le_of_ble_eq_true rfl) (Nat.le_of_ble_eq_true rfl)
  · have hq := tw_if hq hc
    refine lv_iload_n hx hb dcX11_braid_5 rfl (lv_at hl 1 rfl) ?_
    refine lv_iconst (v := 5) hx hb dcX11_braid_6 (by decide) ?_
    refine lv_icmp_le (tgt := 20) hx hb dcX11_braid_7 (by decide) (fun hc => ?_) (fun hc => ?_)
    · have hq := tw_it hq hc
      refine lv_aload_n hx hb dcX11_braid_20 rfl (lv_at hl 0 rfl) ?_
      obtain ⟨k2, v3, z1, hcq, hq⟩ := ct_tc1 hq
      refine ct_cali hU hM (vx_runV (As := []) (rest := []) ⟨hx, hb, hml, hown, hts⟩ (kc_X11_freeBraid l D q vl u hU.1 hlt sa K r0 hr0 z z1 k2 v3 hcq) (cwV 0 hts (tw_gV2 wT_good (fun _ h => h) (wT_C _ xq_793) (wT_C _ xq_794) (wT_C _ xq_795) (wT_C _ xq_773) (wT_C _ xq_796)) rfl rfl rfl cdd_X11_freeBraid ⟨(Nat.le_of_ble_eq_true rfl), (Nat.le_of_ble_eq_true rfl)⟩) (ct_preV hK hTh hM (co_X11 hr0) rfl) rfl rfl hl.1 rfl (lv_room (Nat.le_of_ble_eq_true rfl)) dcX11_braid_21 ⟨(Nat.le_of_ble_eq_true rfl), (Nat.le_of_ble_eq_true rfl)⟩) (fun E ce q9 H locs hk hE hM hce hcv hcl => ?_) (fun H locs hk hM => ?_)
      · have hq := tw_if hq hk
        obtain ⟨rfl, h9⟩ := Prod.mk.inj (Option.some.inj hq)
        obtain ⟨rfl, rfl⟩ := Prod.mk.inj h9
        exact ct_out hex hlocks hk hE hM hce hcv hcl hQQ (Nat.le_of_ble_eq_true rfl) (Nat.le_of_ble_eq_true rfl)
      have hq := tw_it hq hk
      refine lv_istore_n (lv' := [(2, .int v3), (0, .ref (u r0)), (1, .int x1)]) hx hb dcX11_braid_24 rfl hl (by decide) rfl (fun ls hl => ?_)
      refine lv_aload_n hx hb dcX11_braid_25 rfl (lv_at hl 1 rfl) ?_
      refine vgX11_51 hx hb hT hown hK hM hr0 dcX11_braid_26 ?_
      refine vgX11_114 hx hb hT hown hK hM (cs_X11_7 hr0) hq dcX11_braid_29 (fun v4 hq => ?_)
      refine lv_istore_n (lv' := [(3, .int v4), (2, .int v3), (0, .ref (u r0)), (1, .int x1)]) hx hb dcX11_braid_32 rfl hl (by decide) rfl (fun ls hl => ?_)
      refine lv_aload_n hx hb dcX11_braid_33 rfl (lv_at hl 2 rfl) ?_
      refine vgX11_51 hx hb hT hown hK hM hr0 dcX11_braid_34 ?_
      refine lv_iload_n hx hb dcX11_braid_37 rfl (lv_at hl 3 rfl) ?_
      refine lv_aload_n hx hb dcX11_braid_38 rfl (lv_at hl 2 rfl) ?_
      refine vgX11_83 hx hb hT hown hK hM hr0 dcX11_braid_39 ?_
      refine lv_iload_n hx hb dcX11_braid_42 rfl (lv_at hl 1 rfl) ?_
      refine lv_bipush (v := 16) hx hb dcX11_braid_43 (by decide) ?_
      refine lv_imul hx hb dcX11_braid_45 ?_
      obtain ⟨v6, z5, hcq, hq⟩ := tw_cl1 hq
      refine uw_cali hU hM (va_runV (As := [.int x1, .ref (u (r0 + 13)), .int (v3 * 16)]) (rest := []) ⟨hx, hb, hml, hown, hts⟩ (kc_X9_readBraid l D q vl u hU.1 K (r0 + 11000) x1 (r0 + 13) (v3 * 16) (cs_X11_7 hr0) (cr_X11_12 hr0) z1 z5 v6 hcq) (cwV 3 hts (tw_gV2 wT_good wT_C (wT_C _ xq_797) (wT_C _ xq_798) (wT_C _ xq_799) (wT_C _ xq_673) (wT_C _ xq_693)) rfl rfl rfl cdd_X9_readBraid ⟨(Nat.le_of_ble_eq_true rfl), (Nat.le_of_ble_eq_true rfl)⟩) (cw_preV hK hM (co_X9 (cs_X11_7 hr0)) rfl) rfl rfl hl.1 rfl (lv_room (Nat.le_of_ble_eq_true rfl)) dcX11_braid_46 ⟨(Nat.le_of_ble_eq_true rfl), (Nat.le_of_ble_eq_true rfl)⟩) (fun H locs hM => ?_)
      refine lv_istore (lv' := [(4, .int v6), (3, .int v4), (2, .int v3), (0, .ref (u r0)), (1, .int x1)]) hx hb dcX11_braid_49 hl (by decide) rfl (fun ls hl => ?_)
      refine lv_aload_n hx hb dcX11_braid_51 rfl (lv_at hl 3 rfl) ?_
      refine vgX11_51 hx hb hT hown hK hM hr0 dcX11_braid_52 ?_
      refine lv_iconst (v := 0) hx hb dcX11_braid_55 (by decide) ?_
      refine vpX11_114 hx hb hT hown hK hM hU (cs_X11_7 hr0) hq dcX11_braid_56 (fun z7 H locs hM hq => ?_)
      refine lv_iload hx hb dcX11_braid_59 (lv_at hl 0 rfl) ?_
      refine lv_iconst (v := (-1)) hx hb dcX11_braid_61 (by decide) ?_
      refine lv_icmp_eq (tgt := 70) hx hb dcX11_braid_62 (by decide) (fun hc => ?_) (fun hc => ?_)
      · have hq := tw_it hq hc
        refine lv_aload_n hx hb dcX11_braid_70 rfl (lv_at hl 3 rfl) ?_
        refine vgX11_87 hx hb hT hown hK hM hr0 dcX11_braid_71 ?_
        refine lv_iload_n hx hb dcX11_braid_74 rfl (lv_at hl 2 rfl) ?_
        refine lv_iload_n hx hb dcX11_braid_75 rfl (lv_at hl 1 rfl) ?_
        refine uw_iast cX_ok hU hx hb hK hM (cr_X11_13 hr0) hq dcX11_braid_76 (fun z8 H locs hM hq => ?_)
        refine lv_aload_n hx hb dcX11_braid_77 rfl (lv_at hl 3 rfl) ?_
        refine vgX11_91 hx hb hT hown hK hM hr0 dcX11_braid_78 ?_
        refine lv_iload_n hx hb dcX11_braid_81 rfl (lv_at hl 2 rfl) ?_
        refine lv_iload_n hx hb dcX11_braid_82 rfl (lv_at hl 4 rfl) ?_
        refine uw_iast cX_ok hU hx hb hK hM (cr_X11_14 hr0) hq dcX11_braid_83 (fun z9 H locs hM hq => ?_)
        refine lv_iload_n hx hb dcX11_braid_84 rfl (lv_at hl 2 rfl) ?_
        exact ct_iret hx hb hr hlocks hM hq hQQ (Nat.le_of_ble_eq_true rfl) (Nat.le_of_ble_eq_true rfl) dcX11_braid_85
      · have hq := tw_if hq hc
        refine lv_iconst (v := (-1)) hx hb dcX11_braid_65 (by decide) ?_
        refine lv_iload hx hb dcX11_braid_66 (lv_at hl 0 rfl) ?_
        refine lv_isub hx hb dcX11_braid_68 ?_
        exact ct_iret hx hb hr hlocks hM hq hQQ (Nat.le_of_ble_eq_true rfl) (Nat.le_of_ble_eq_true rfl) dcX11_braid_69
    · have hq := tw_if hq hc
      obtain ⟨rfl, h9⟩ := Prod.mk.inj (Option.some.inj hq)
      obtain ⟨rfl, rfl⟩ := Prod.mk.inj h9
      exact ct_throw (k := 2) (text := "a braid has 2 to 5 strands") (cls := "java/lang/IllegalArgumentException") hx hb hlt hown hex hlocks (by rw [hml]; exact hl.1.symm) hTh (List.mem_of_getElem? (i := 2) rfl) rfl (by decide) (by decide +kernel) (hts _ (List.mem_cons_of_mem _ wT_k2)) (hts _ (List.mem_cons_of_mem _ wT_i2)) (fun w h => hts w (List.mem_cons_of_mem _ (wT_2 w h))) th9_2 tg9_2 hM dcX11_braid_10 dcX11_braid_13 dcX11_braid_14 dcX11_braid_16 dcX11_braid_19 hQQ (Nat.le_of_ble_eq_true rfl) (Nat.le_of_ble_eq_true rfl) (Nat.le_of_ble_eq_true rfl) (Nat.le_of_ble_eq_true rfl) (Nat.le_of_ble_eq_true rfl) (Nat.le_of_ble_eq_true rfl)
theorem dcX11_needDiagram_0 : decode cX11_needDiagram 0 = .ok (.aload_n 0, 1) := by decide +kernel
theorem dcX11_needDiagram_1 : decode cX11_needDiagram 1 = .ok (.iload_n 1, 1) := by decide +kernel
theorem dcX11_needDiagram_2 : decode cX11_needDiagram 2 = .ok (.invokevirtual 160, 3) := by decide +kernel
theorem dcX11_needDiagram_5 : decode cX11_needDiagram 5 = .ok (.ifCond .ne 13, 3) := by decide +kernel
theorem dcX11_needDiagram_8 : decode cX11_needDiagram 8 = .ok (.new 164, 3) := by decide +kernel
theorem dcX11_needDiagram_11 : decode cX11_needDiagram 11 = .ok (.dup, 1) := by decide +kernel
theorem dcX11_needDiagram_12 : decode cX11_needDiagram 12 = .ok (.ldc 166, 2) := by decide +kernel
theorem dcX11_needDiagram_14 : decode cX11_needDiagram 14 = .ok (.invokespecial 168, 3) := by decide +kernel
theorem dcX11_needDiagram_17 : decode cX11_needDiagram 17 = .ok (.athrow, 1) := by decide +kernel
theorem dcX11_needDiagram_18 : decode cX11_needDiagram 18 = .ok (.return_, 1) := by decide +kernel
def cm_X11_needDiagram_0 (vl : Nat → Nat) (K : Nat) (x1 : Int32) (r0 : Nat) (z : ow_MS) : Option (Nat × ow_MS) :=
 cs1 (ce_X11_hasDiagram vl K r0 x1 z) fun v2 z1 => (if v2 = 0 then some (1, z1)
 else some (0, z1))
def ce_X11_needDiagram (vl : Nat → Nat) (K : Nat) (r0 : Nat) (x1 : Int32) (z : ow_MS) : Option (Nat × ow_MS) := cm_X11_needDiagram_0 vl K x1 r0 z
abbrev wc_X11_needDiagram : List Cond := .code yX11_needDiagram cX11_needDiagram 2 none :: wT
theorem cdd_X11_needDiagram : yX11_needDiagram.cls = RX11 ∧ yX11_needDiagram.cls ≠ "java/lang/invoke/MethodHandle" ∧ yX11_needDiagram.cls ≠ "java/lang/invoke/VarHandle" ∧ (parseMethodDescriptor yX11_needDiagram.desc).map (fun d => d.parameters.length) = some 1 := by decide +kernel
set_option maxHeartbeats 4000000 in
set_option maxRecDepth 100000 in
theorem kc_X11_needDiagram (l : Launch) (D : va_G) (q : Nat → ClassId) (vl u : Nat → Nat) (hU0 : tw_inj (cX vl) u) (hlt : l.stackTraces = false) (sa : Nat → Nat) (K : Nat) (r0 : Nat) (x1 : Int32) (hr0 : cw_X11 r0) (z z1 : ow_MS) (k9 : Nat) (hq : ce_X11_needDiagram vl K r0 x1 z = some (k9, z1)) : vx_Met l yX11_needDiagram wc_X11_needDiagram ({ frames := 6, cells := 1, slots := 6, locals := 90 } : Room) (va_Pc [.ref (u r0), .int x1] (cw_preT D q vl u sa z)) (va_Qv (fun (_ : Unit) => k9 = 0) (fun _ t => va_P D vwCl (uw (cX vl) q u z1) t.heap) (tw_A (cX vl) u)) (ct_X D q vl u k9 z1) 1 6 (tw_A (cX vl) u) := by
  refine vx_ofW (cc := cX11_needDiagram) (maxL := 2) (ret := none) (by decide) rfl ?_
  intro p e s m args below meth c s₁ B hml hex hv
  obtain ⟨rfl, hP, hK, hTh⟩ := hv
  have hx := B.exec
  have hb := B.bytes
  have hr := B.returns
  have hts := atoms_spec (ws := wc_X11_needDiagram) B.pre
  have hT : ∀ w ∈ wC, w.before ([.ref (u r0), .int x1] : List Value).toArray s = true := fun w h => hts w (List.mem_cons_of_mem _ (wT_C w h))
  have hown : s.vm.findClass RX11 = some m.cls := findClass_of_methodNamed B.named
  have hlocks := B.notSynchronized
  have hU : uw_inj (cX vl) u (tw_A (cX vl) u) := ⟨hU0, fun h hh => ⟨h, hh, rfl⟩⟩
  have hM : uw_M D vwCl (cX vl) q (tw_A (cX vl) u) s.heap u z s.heap [] := ⟨hP, va_S.rf⟩
  have hl := lv_entry ([.ref (u r0), .int x1]) (n := 2) (Nat.le_of_ble_eq_true rfl)
  rw [lg_entry_eq]
  generalize (lg_sl ([.ref (u r0), .int x1]) ++ List.replicate (2 - (lg_sl ([.ref (u r0), .int x1])).length) Slot.unset).toArray = ls at hl ⊢
  have hl : lv_has ls 2 [(0, .ref (u r0)), (1, .int x1)] := hl
  refine ow_named (fun QQ hQQ => ?_)
  generalize ([.ref (u r0), .int x1] : List Value).toArray = args at hts hT hQQ ⊢
  have hq : cm_X11_needDiagram_0 vl K x1 r0 z = some (k9, z1) := hq
  unfold cm_X11_needDiagram_0 at hq
  suffices key : ∀ (H : Heap) (locs : List Loc), uw_M D vwCl (cX vl) q (tw_A (cX vl) u) s.heap u z H locs → W p l e ({ frames := 6, cells := 1, slots := 6, locals := 90 } : Room) s m args below meth c H locs 0 0 QQ (F0 m 0 ls []) from key s.heap [] hM
  intro H locs hM
  refine lv_aload_n hx hb dcX11_needDiagram_0 rfl (lv_at hl 0 rfl) ?_
  refine lv_iload_n hx hb dcX11_needDiagram_1 rfl (lv_at hl 1 rfl) ?_
  obtain ⟨v2, z1, hcq, hq⟩ := tw_cl1 hq
  refine uw_cali hU hM (va_runV (As := [.int x1]) (rest := []) ⟨hx, hb, hml, hown, hts⟩ (kc_X11_hasDiagram l D q vl u hU.1 K r0 x1 hr0 z z1 v2 hcq) (cwV 1 hts (tw_gV2 wT_good wT_C (wT_C _ xq_804) (wT_C _ xq_805) (wT_C _ xq_806) (wT_C _ xq_773) (wT_C _ xq_801)) rfl rfl rfl cdd_X11_hasDiagram ⟨(Nat.le_of_ble_eq_true rfl), (Nat.le_of_ble_eq_true rfl)⟩) (cw_preV hK hM (co_X11 hr0) rfl) rfl rfl hl.1 rfl (lv_room (Nat.le_of_ble_eq_true rfl)) dcX11_needDiagram_2 ⟨(Nat.le_of_ble_eq_true rfl), (Nat.le_of_ble_eq_true rfl)⟩) (fun H locs hM => ?_)
  refine lv_if_ne (tgt := 18) hx hb dcX11_needDiagram_5 (by decide) (fun hc => ?_) (fun hc => ?_)
  · have hq := tw_if hq hc
    exact ct_vret hx hb hr hlocks hM hq hQQ (Nat.le_of_ble_eq_true rfl) (Nat.le_of_ble_eq_true rfl) dcX11_needDiagram_18
  · have hq := tw_it hq hc
    obtain ⟨rfl, rfl⟩ := Prod.mk.inj (Option.some.inj hq)
    exact ct_throw (k := 1) (text := "no such diagram") (cls := "java/lang/IndexOutOfBoundsException") hx hb hlt hown hex hlocks (by rw [hml]; exact hl.1.symm) hTh (List.mem_of_getElem? (i := 3) rfl) rfl (by decide) (by decide +kernel) (hts _ (List.mem_cons_of_mem _ wT_k1)) (hts _ (List.mem_cons_of_mem _ wT_i1)) (fun w h => hts w (List.mem_cons_of_mem _ (wT_1 w h))) th9_1 tg9_1 hM dcX11_needDiagram_8 dcX11_needDiagram_11 dcX11_needDiagram_12 dcX11_needDiagram_14 dcX11_needDiagram_17 hQQ (Nat.le_of_ble_eq_true rfl) (Nat.le_of_ble_eq_true rfl) (Nat.le_of_ble_eq_true rfl) (Nat.le_of_ble_eq_true rfl) (Nat.le_of_ble_eq_true rfl) (Nat.le_of_ble_eq_true rfl)
theorem dcX11_needBraid_0 : decode cX11_needBraid 0 = .ok (.aload_n 0, 1) := by decide +kernel
theorem dcX11_needBraid_1 : decode cX11_needBraid 1 = .ok (.iload_n 1, 1) := by decide +kernel
theorem dcX11_needBraid_2 : decode cX11_needBraid 2 = .ok (.invokevirtual 169, 3) := by decide +kernel
theorem dcX11_needBraid_5 : decode cX11_needBraid 5 = .ok (.ifCond .ne 13, 3) := by decide +kernel
theorem dcX11_needBraid_8 : decode cX11_needBraid 8 = .ok (.new 164, 3) := by decide +kernel
theorem dcX11_needBraid_11 : decode cX11_needBraid 11 = .ok (.dup, 1) := by decide +kernel
theorem dcX11_needBraid_12 : decode cX11_needBraid 12 = .ok (.ldc 172, 2) := by decide +kernel
theorem dcX11_needBraid_14 : decode cX11_needBraid 14 = .ok (.invokespecial 168, 3) := by decide +kernel
theorem dcX11_needBraid_17 : decode cX11_needBraid 17 = .ok (.athrow, 1) := by decide +kernel
theorem dcX11_needBraid_18 : decode cX11_needBraid 18 = .ok (.return_, 1) := by decide +kernel
def cm_X11_needBraid_0 (vl : Nat → Nat) (K : Nat) (x1 : Int32) (r0 : Nat) (z : ow_MS) : Option (Nat × ow_MS) :=
 cs1 (ce_X11_hasBraid vl K r0 x1 z) fun v2 z1 => (if v2 = 0 then some (1, z1)
 else some (0, z1))
def ce_X11_needBraid (vl : Nat → Nat) (K : Nat) (r0 : Nat) (x1 : Int32) (z : ow_MS) : Option (Nat × ow_MS) := cm_X11_needBraid_0 vl K x1 r0 z
abbrev wc_X11_needBraid : List Cond := .code yX11_needBraid cX11_needBraid 2 none :: wT
theorem cdd_X11_needBraid : yX11_needBraid.cls = RX11 ∧ yX11_needBraid.cls ≠ "java/lang/invoke/MethodHandle" ∧ yX11_needBraid.cls ≠ "java/lang/invoke/VarHandle" ∧ (parseMethodDescriptor yX11_needBraid.desc).map (fun d => d.parameters.length) = some 1 := by decide +kernel
set_option maxHeartbeats 4000000 in
set_option maxRecDepth 100000 in
theorem kc_X11_needBraid (l : Launch) (D : va_G) (q : Nat → ClassId) (vl u : Nat → Nat) (hU0 : tw_inj (cX vl) u) (hlt : l.stackTraces = false) (sa : Nat → Nat) (K : Nat) (r0 : Nat) (x1 : Int32) (hr0 : cw_X11 r0) (z z1 : ow_MS) (k9 : Nat) (hq : ce_X11_needBraid vl K r0 x1 z = some (k9, z1)) : vx_Met l yX11_needBraid wc_X11_needBraid ({ frames := 6, cells := 1, slots := 6, locals := 90 } : Room) (va_Pc [.ref (u r0), .int x1] (cw_preT D q vl u sa z)) (va_Qv (fun (_ : Unit) => k9 = 0) (fun _ t => va_P D vwCl (uw (cX vl) q u z1) t.heap) (tw_A (cX vl) u)) (ct_X D q vl u k9 z1) 1 6 (tw_A (cX vl) u) := by
  refine vx_ofW (cc := cX11_needBraid) (maxL := 2) (ret := none) (by decide) rfl ?_
  intro p e s m args below meth c s₁ B hml hex hv
  obtain ⟨rfl, hP, hK, hTh⟩ := hv
  have hx := B.exec
  have hb := B.bytes
  have hr := B.returns
  have hts := atoms_spec (ws := wc_X11_needBraid) B.pre
  have hT : ∀ w ∈ wC, w.before ([.ref (u r0), .int x1] : List Value).toArray s = true := fun w h => hts w (List.mem_cons_of_mem _ (wT_C w h))
  have hown : s.vm.findClass RX11 = some m.cls := findClass_of_methodNamed B.named
  have hlocks := B.notSynchronized
  have hU : uw_inj (cX vl) u (tw_A (cX vl) u) := ⟨hU0, fun h hh => ⟨h, hh, rfl⟩⟩
  have hM : uw_M D vwCl (cX vl) q (tw_A (cX vl) u) s.heap u z s.heap [] := ⟨hP, va_S.rf⟩
  have hl := lv_entry ([.ref (u r0), .int x1]) (n := 2) (Nat.le_of_ble_eq_true rfl)
  rw [lg_entry_eq]
  generalize (lg_sl ([.ref (u r0), .int x1]) ++ List.replicate (2 - (lg_sl ([.ref (u r0), .int x1])).length) Slot.unset).toArray = ls at hl ⊢
  have hl : lv_has ls 2 [(0, .ref (u r0)), (1, .int x1)] := hl
  refine ow_named (fun QQ hQQ => ?_)
  generalize ([.ref (u r0), .int x1] : List Value).toArray = args at hts hT hQQ ⊢
  have hq : cm_X11_needBraid_0 vl K x1 r0 z = some (k9, z1) := hq
  unfold cm_X11_needBraid_0 at hq
  suffices key : ∀ (H : Heap) (locs : List Loc), uw_M D vwCl (cX vl) q (tw_A (cX vl) u) s.heap u z H locs → W p l e ({ frames := 6, cells := 1, slots := 6, locals := 90 } : Room) s m args below meth c H locs 0 0 QQ (F0 m 0 ls []) from key s.heap [] hM
  intro H locs hM
  refine lv_aload_n hx hb dcX11_needBraid_0 rfl (lv_at hl 0 rfl) ?_
  refine lv_iload_n hx hb dcX11_needBraid_1 rfl (lv_at hl 1 rfl) ?_
  obtain ⟨v2, z1, hcq, hq⟩ := tw_cl1 hq
  refine uw_cali hU hM (va_runV (As := [.int x1]) (rest := []) ⟨hx, hb, hml, hown, hts⟩ (kc_X11_hasBraid l D q vl u hU.1 K r0 x1 hr0 z z1 v2 hcq) (cwV 1 hts (tw_gV2 wT_good wT_C (wT_C _ xq_808) (wT_C _ xq_809) (wT_C _ xq_810) (wT_C _ xq_773) (wT_C _ xq_802)) rfl rfl rfl cdd_X11_hasBraid ⟨(Nat.le_of_ble_eq_true rfl), (Nat.le_of_ble_eq_true rfl)⟩) (cw_preV hK hM (co_X11 hr0) rfl) rfl rfl hl.1 rfl (lv_room (Nat.le_of_ble_eq_true rfl)) dcX11_needBraid_2 ⟨(Nat.le_of_ble_eq_true rfl), (Nat.le_of_ble_eq_true rfl)⟩) (fun H locs hM => ?_)
  refine lv_if_ne (tgt := 18) hx hb dcX11_needBraid_5 (by decide) (fun hc => ?_) (fun hc => ?_)
  · have hq := tw_if hq hc
    exact ct_vret hx hb hr hlocks hM hq hQQ (Nat.le_of_ble_eq_true rfl) (Nat.le_of_ble_eq_true rfl) dcX11_needBraid_18
  · have hq := tw_it hq hc
    obtain ⟨rfl, rfl⟩ := Prod.mk.inj (Option.some.inj hq)
    exact ct_throw (k := 1) (text := "no such braid") (cls := "java/lang/IndexOutOfBoundsException") hx hb hlt hown hex hlocks (by rw [hml]; exact hl.1.symm) hTh (List.mem_of_getElem? (i := 4) rfl) rfl (by decide) (by decide +kernel) (hts _ (List.mem_cons_of_mem _ wT_k1)) (hts _ (List.mem_cons_of_mem _ wT_i1)) (fun w h => hts w (List.mem_cons_of_mem _ (wT_1 w h))) th9_1 tg9_1 hM dcX11_needBraid_8 dcX11_needBraid_11 dcX11_needBraid_12 dcX11_needBraid_14 dcX11_needBraid_17 hQQ (Nat.le_of_ble_eq_true rfl) (Nat.le_of_ble_eq_true rfl) (Nat.le_of_ble_eq_true rfl) (Nat.le_of_ble_eq_true rfl) (Nat.le_of_ble_eq_true rfl) (Nat.le_of_ble_eq_true rfl)
theorem dcX11_figure_0 : decode cX11_figure 0 = .ok (.aload_n 0, 1) := dw_at cX11_figure_k0 (p := 0) rfl (by decide +kernel)
theorem dcX11_figure_1 : decode cX11_figure 1 = .ok (.iload_n 1, 1) := dw_at cX11_figure_k0 (p := 1) rfl (by decide +kernel)
theorem dcX11_figure_2 : decode cX11_figure 2 = .ok (.invokevirtual 189, 3) := dw_at cX11_figure_k0 (p := 2) rfl (by decide +kernel)
theorem dcX11_figure_5 : decode cX11_figure 5 = .ok (.iload_n 2, 1) := dw_at cX11_figure_k0 (p := 5) rfl (by decide +kernel)
theorem dcX11_figure_6 : decode cX11_figure 6 = .ok (.ifCond .lt 8, 3) := dw_at cX11_figure_k0 (p := 6) rfl (by decide +kernel)
theorem dcX11_figure_9 : decode cX11_figure 9 = .ok (.iload_n 2, 1) := dw_at cX11_figure_k0 (p := 9) rfl (by decide +kernel)
theorem dcX11_figure_10 : decode cX11_figure 10 = .ok (.iconst 5, 1) := dw_at cX11_figure_k0 (p := 10) rfl (by decide +kernel)
theorem dcX11_figure_11 : decode cX11_figure 11 = .ok (.if_icmp .le 13, 3) := dw_at cX11_figure_k0 (p := 11) rfl (by decide +kernel)
theorem dcX11_figure_14 : decode cX11_figure 14 = .ok (.new 128, 3) := dw_at cX11_figure_k0 (p := 14) rfl (by decide +kernel)
theorem dcX11_figure_17 : decode cX11_figure 17 = .ok (.dup, 1) := dw_at cX11_figure_k0 (p := 17) rfl (by decide +kernel)
theorem dcX11_figure_18 : decode cX11_figure 18 = .ok (.ldc 192, 2) := dw_at cX11_figure_k0 (p := 18) rfl (by decide +kernel)
theorem dcX11_figure_20 : decode cX11_figure 20 = .ok (.invokespecial 132, 3) := dw_at cX11_figure_k0 (p := 20) rfl (by decide +kernel)
theorem dcX11_figure_23 : decode cX11_figure 23 = .ok (.athrow, 1) := dw_at cX11_figure_k0 (p := 23) rfl (by decide +kernel)
theorem dcX11_figure_24 : decode cX11_figure 24 = .ok (.aload_n 0, 1) := dw_at cX11_figure_k1 (p := 0) rfl (by decide +kernel)
theorem dcX11_figure_25 : decode cX11_figure 25 = .ok (.getfield 27, 3) := dw_at cX11_figure_k1 (p := 1) rfl (by decide +kernel)
theorem dcX11_figure_28 : decode cX11_figure 28 = .ok (.aload_n 0, 1) := dw_at cX11_figure_k1 (p := 4) rfl (by decide +kernel)
theorem dcX11_figure_29 : decode cX11_figure 29 = .ok (.getfield 14, 3) := dw_at cX11_figure_k1 (p := 5) rfl (by decide +kernel)
theorem dcX11_figure_32 : decode cX11_figure 32 = .ok (.iload_n 1, 1) := dw_at cX11_figure_k1 (p := 8) rfl (by decide +kernel)
theorem dcX11_figure_33 : decode cX11_figure 33 = .ok (.invokevirtual 194, 3) := dw_at cX11_figure_k1 (p := 9) rfl (by decide +kernel)
theorem dcX11_figure_36 : decode cX11_figure 36 = .ok (.iload_n 2, 1) := dw_at cX11_figure_k1 (p := 12) rfl (by decide +kernel)
theorem dcX11_figure_37 : decode cX11_figure 37 = .ok (.tableswitch 90 0 4 #[35, 43, 51, 59, 82], 35) := by decide +kernel
theorem dcX11_figure_72 : decode cX11_figure 72 = .ok (.aload_n 0, 1) := dw_at cX11_figure_k2 (p := 0) rfl (by decide +kernel)
theorem dcX11_figure_73 : decode cX11_figure 73 = .ok (.getfield 27, 3) := dw_at cX11_figure_k2 (p := 1) rfl (by decide +kernel)
theorem dcX11_figure_76 : decode cX11_figure 76 = .ok (.getfield 198, 3) := dw_at cX11_figure_k2 (p := 4) rfl (by decide +kernel)
theorem dcX11_figure_79 : decode cX11_figure 79 = .ok (.ireturn, 1) := dw_at cX11_figure_k2 (p := 7) rfl (by decide +kernel)
theorem dcX11_figure_80 : decode cX11_figure 80 = .ok (.aload_n 0, 1) := dw_at cX11_figure_k2 (p := 8) rfl (by decide +kernel)
theorem dcX11_figure_81 : decode cX11_figure 81 = .ok (.getfield 27, 3) := dw_at cX11_figure_k2 (p := 9) rfl (by decide +kernel)
theorem dcX11_figure_84 : decode cX11_figure 84 = .ok (.getfield 201, 3) := dw_at cX11_figure_k2 (p := 12) rfl (by decide +kernel)
theorem dcX11_figure_87 : decode cX11_figure 87 = .ok (.ireturn, 1) := dw_at cX11_figure_k2 (p := 15) rfl (by decide +kernel)
theorem dcX11_figure_88 : decode cX11_figure 88 = .ok (.aload_n 0, 1) := dw_at cX11_figure_k2 (p := 16) rfl (by decide +kernel)
theorem dcX11_figure_89 : decode cX11_figure 89 = .ok (.getfield 27, 3) := dw_at cX11_figure_k2 (p := 17) rfl (by decide +kernel)
theorem dcX11_figure_92 : decode cX11_figure 92 = .ok (.getfield 204, 3) := dw_at cX11_figure_k2 (p := 20) rfl (by decide +kernel)
theorem dcX11_figure_95 : decode cX11_figure 95 = .ok (.ireturn, 1) := dw_at cX11_figure_k2 (p := 23) rfl (by decide +kernel)
theorem dcX11_figure_96 : decode cX11_figure 96 = .ok (.aload_n 0, 1) := dw_at cX11_figure_k3 (p := 0) rfl (by decide +kernel)
theorem dcX11_figure_97 : decode cX11_figure 97 = .ok (.getfield 27, 3) := dw_at cX11_figure_k3 (p := 1) rfl (by decide +kernel)
theorem dcX11_figure_100 : decode cX11_figure 100 = .ok (.invokevirtual 207, 3) := dw_at cX11_figure_k3 (p := 4) rfl (by decide +kernel)
theorem dcX11_figure_103 : decode cX11_figure 103 = .ok (.aload_n 0, 1) := dw_at cX11_figure_k3 (p := 7) rfl (by decide +kernel)
theorem dcX11_figure_104 : decode cX11_figure 104 = .ok (.getfield 27, 3) := dw_at cX11_figure_k3 (p := 8) rfl (by decide +kernel)
theorem dcX11_figure_107 : decode cX11_figure 107 = .ok (.getfield 210, 3) := dw_at cX11_figure_k3 (p := 11) rfl (by decide +kernel)
theorem dcX11_figure_110 : decode cX11_figure 110 = .ok (.aload_n 0, 1) := dw_at cX11_figure_k3 (p := 14) rfl (by decide +kernel)
theorem dcX11_figure_111 : decode cX11_figure 111 = .ok (.getfield 27, 3) := dw_at cX11_figure_k3 (p := 15) rfl (by decide +kernel)
theorem dcX11_figure_114 : decode cX11_figure 114 = .ok (.getfield 204, 3) := dw_at cX11_figure_k3 (p := 18) rfl (by decide +kernel)
theorem dcX11_figure_117 : decode cX11_figure 117 = .ok (.iadd, 1) := dw_at cX11_figure_k3 (p := 21) rfl (by decide +kernel)
theorem dcX11_figure_118 : decode cX11_figure 118 = .ok (.ireturn, 1) := dw_at cX11_figure_k3 (p := 22) rfl (by decide +kernel)
theorem dcX11_figure_119 : decode cX11_figure 119 = .ok (.aload_n 0, 1) := dw_at cX11_figure_k3 (p := 23) rfl (by decide +kernel)
theorem dcX11_figure_120 : decode cX11_figure 120 = .ok (.getfield 27, 3) := dw_at cX11_figure_k4 (p := 0) rfl (by decide +kernel)
theorem dcX11_figure_123 : decode cX11_figure 123 = .ok (.invokevirtual 213, 3) := dw_at cX11_figure_k4 (p := 3) rfl (by decide +kernel)
theorem dcX11_figure_126 : decode cX11_figure 126 = .ok (.ireturn, 1) := dw_at cX11_figure_k4 (p := 6) rfl (by decide +kernel)
theorem dcX11_figure_127 : decode cX11_figure 127 = .ok (.aload_n 0, 1) := dw_at cX11_figure_k4 (p := 7) rfl (by decide +kernel)
theorem dcX11_figure_128 : decode cX11_figure 128 = .ok (.getfield 27, 3) := dw_at cX11_figure_k4 (p := 8) rfl (by decide +kernel)
theorem dcX11_figure_131 : decode cX11_figure 131 = .ok (.invokevirtual 216, 3) := dw_at cX11_figure_k4 (p := 11) rfl (by decide +kernel)
theorem dcX11_figure_134 : decode cX11_figure 134 = .ok (.ifCond .eq 7, 3) := dw_at cX11_figure_k4 (p := 14) rfl (by decide +kernel)
theorem dcX11_figure_137 : decode cX11_figure 137 = .ok (.iconst 1, 1) := dw_at cX11_figure_k4 (p := 17) rfl (by decide +kernel)
theorem dcX11_figure_138 : decode cX11_figure 138 = .ok (.goto 4, 3) := dw_at cX11_figure_k4 (p := 18) rfl (by decide +kernel)
theorem dcX11_figure_141 : decode cX11_figure 141 = .ok (.iconst 0, 1) := dw_at cX11_figure_k4 (p := 21) rfl (by decide +kernel)
theorem dcX11_figure_142 : decode cX11_figure 142 = .ok (.ireturn, 1) := dw_at cX11_figure_k4 (p := 22) rfl (by decide +kernel)
def cm_X11_figure_0 (vl : Nat → Nat) (K : Nat) (x1 : Int32) (x2 : Int32) (r0 : Nat) (z : ow_MS) : Option (Nat × Int32 × ow_MS) :=
 tc0 (ce_X11_needDiagram vl K r0 x1 z) (fun k z => some (k, 0, z)) fun z1 => (if x2 < 0 then some (2, 0, z1)
 else (if x2 ≤ 5 then cs0 (ce_X7_load vl K (r0 + 4000) (r0 + 1000) x1 z1) fun z3 => (if x2.toInt < 0 ∨ 4 < x2.toInt then cs1 (ce_X7_alternates vl K (r0 + 4000) z3) fun v5 z4 => (if v5 = 0 then some (0, 0, z4)
 else some (0, 1, z4))
 else (if x2 = 0 then rdF z3 ((r0 + 4000) + 8) fun v6 => some (0, v6, z3)
 else (if x2 = 1 then rdF z3 ((r0 + 4000) + 10) fun v7 => some (0, v7, z3)
 else (if x2 = 2 then rdF z3 ((r0 + 4000) + 9) fun v8 => some (0, v8, z3)
 else (if x2 = 3 then cs0 (ce_X7_markParts vl K (r0 + 4000) z3) fun z9 => rdF z9 ((r0 + 4000) + 11) fun v10 => rdF z9 ((r0 + 4000) + 9) fun v11 => some (0, (v10 + v11), z9)
 else (if x2 = 4 then cs1 (ce_X7_writhe vl K (r0 + 4000) z3) fun v13 z12 => some (0, v13, z12)
 else none))))))
 else some (2, 0, z1)))
def ce_X11_figure (vl : Nat → Nat) (K : Nat) (r0 : Nat) (x1 : Int32) (x2 : Int32) (z : ow_MS) : Option (Nat × Int32 × ow_MS) := cm_X11_figure_0 vl K x1 x2 r0 z
abbrev wc_X11_figure : List Cond := .code yX11_figure cX11_figure 3 (some .int) :: wT
theorem cdd_X11_figure : yX11_figure.cls = RX11 ∧ yX11_figure.cls ≠ "java/lang/invoke/MethodHandle" ∧ yX11_figure.cls ≠ "java/lang/invoke/VarHandle" ∧ (parseMethodDescriptor yX11_figure.desc).map (fun d => d.parameters.length) = some 2 := by decide +kernel
set_option maxHeartbeats 4000000 in
set_option maxRecDepth 100000 in
theorem kc_X11_figure (l : Launch) (D : va_G) (q : Nat → ClassId) (vl u : Nat → Nat) (hU0 : tw_inj (cX vl) u) (hlt : l.stackTraces = false) (sa : Nat → Nat) (K : Nat) (r0 : Nat) (x1 : Int32) (x2 : Int32) (hr0 : cw_X11 r0) (z z1 : ow_MS) (k9 : Nat) (r : Int32) (hq : ce_X11_figure vl K r0 x1 x2 z = some (k9, r, z1)) : vx_Met l yX11_figure wc_X11_figure ({ frames := 7, cells := 2, slots := 12, locals := 111 } : Room) (va_Pc [.ref (u r0), .int x1, .int x2] (cw_preT D q vl u sa z)) (va_Qi (fun x (_ : Unit) => k9 = 0 ∧ x = r) (fun _ t => va_P D vwCl (uw (cX vl) q u z1) t.heap) (tw_A (cX vl) u)) (ct_X D q vl u k9 z1) 2 12 (tw_A (cX vl) u) := by
  refine vx_ofW (cc := cX11_figure) (maxL := 3) (ret := (some .int)) (by decide) rfl ?_
  intro p e s m args below meth c s₁ B hml hex hv
  obtain ⟨rfl, hP, hK, hTh⟩ := hv
  have hx := B.exec
  have hb := B.bytes
  have hr := B.returns
  have hts := atoms_spec (ws := wc_X11_figure) B.pre
  have hT : ∀ w ∈ wC, w.before ([.ref (u r0), .int x1, .int x2] : List Value).toArray s = true := fun w h => hts w (List.mem_cons_of_mem _ (wT_C w h))
  have hown : s.vm.findClass RX11 = some m.cls := findClass_of_methodNamed B.named
  have hlocks := B.notSynchronized
  have hU : uw_inj (cX vl) u (tw_A (cX vl) u) := ⟨hU0, fun h hh => ⟨h, hh, rfl⟩⟩
  have hM : uw_M D vwCl (cX vl) q (tw_A (cX vl) u) s.heap u z s.heap [] := ⟨hP, va_S.rf⟩
  have hl := lv_entry ([.ref (u r0), .int x1, .int x2]) (n := 3) (Nat.le_of_ble_eq_true rfl)
  rw [lg_entry_eq]
  generalize (lg_sl ([.ref (u r0), .int x1, .int x2]) ++ List.replicate (3 - (lg_sl ([.ref (u r0), .int x1, .int x2])).length) Slot.unset).toArray = ls at hl ⊢
  have hl : lv_has ls 3 [(0, .ref (u r0)), (1, .int x1), (2, .int x2)] := hl
  refine ow_named (fun QQ hQQ => ?_)
  generalize ([.ref (u r0), .int x1, .int x2] : List Value).toArray = args at hts hT hQQ ⊢
  have hq : cm_X11_figure_0 vl K x1 x2 r0 z = some (k9, r, z1) := hq
  unfold cm_X11_figure_0 at hq
  suffices key : ∀ (H : Heap) (locs : List Loc), uw_M D vwCl (cX vl) q (tw_A (cX vl) u) s.heap u z H locs → W p l e ({ frames := 7, cells := 2, slots := 12, locals := 111 } : Room) s m args below meth c H locs 0 0 QQ (F0 m 0 ls []) from key s.heap [] hM
  intro H locs hM
  refine lv_aload_n hx hb dcX11_figure_0 rfl (lv_at hl 0 rfl) ?_
  refine lv_iload_n hx hb dcX11_figure_1 rfl (lv_at hl 1 rfl) ?_
  obtain ⟨k2, z1, hcq, hq⟩ := ct_tc0 hq
  refine ct_calv hU hM (vx_runV (As := [.int x1]) (rest := []) ⟨hx, hb, hml, hown, hts⟩ (kc_X11_needDiagram l D q vl u hU.1 hlt sa K r0 x1 hr0 z z1 k2 hcq) (cwV 1 hts (tw_gV2 wT_good (fun _ h => h) (wT_C _ xq_818) (wT_C _ xq_819) (wT_C _ xq_820) (wT_C _ xq_773) (wT_C _ xq_807)) rfl rfl rfl cdd_X11_needDiagram ⟨(Nat.le_of_ble_eq_true rfl), (Nat.le_of_ble_eq_true rfl)⟩) (ct_preV hK hTh hM (co_X11 hr0) rfl) rfl rfl hl.1 rfl (lv_room (Nat.le_of_ble_eq_true rfl)) dcX11_figure_2 ⟨(Nat.le_of_ble_eq_true rfl), (Nat.le_of_ble_eq_true rfl)⟩) (fun E ce q9 H locs hk hE hM hce hcv hcl => ?_) (fun H locs hk hM => ?_)
  · have hq := tw_if hq hk
    obtain ⟨rfl, h9⟩ := Prod.mk.inj (Option.some.inj hq)
    obtain ⟨rfl, rfl⟩ := Prod.mk.inj h9
    exact ct_out hex hlocks hk hE hM hce hcv hcl hQQ (Nat.le_of_ble_eq_true rfl) (Nat.le_of_ble_eq_true rfl)
  have hq := tw_it hq hk
  refine lv_iload_n hx hb dcX11_figure_5 rfl (lv_at hl 2 rfl) ?_
  refine lv_if_lt (tgt := 14) hx hb dcX11_figure_6 (by decide) (fun hc => ?_) (fun hc => ?_)
  · have hq := tw_it hq hc
    obtain ⟨rfl, h9⟩ := Prod.mk.inj (Option.some.inj hq)
    obtain ⟨rfl, rfl⟩ := Prod.mk.inj h9
    exact ct_throw (k := 2) (text := "there are six figures") (cls := "java/lang/IllegalArgumentException") hx hb hlt hown hex hlocks (by rw [hml]; exact hl.1.symm) hTh (List.mem_of_getElem? (i := 7) rfl) rfl (by decide) (by decide +kernel) (hts _ (List.mem_cons_of_mem _ wT_k2)) (hts _ (List.mem_cons_of_mem _ wT_i2)) (fun w h => hts w (List.mem_cons_of_mem _ (wT_2 w h))) th9_2 tg9_2 hM dcX11_figure_14 dcX11_figure_17 dcX11_figure_18 dcX11_figure_20 dcX11_figure_23 hQQ (Nat.le_of_ble_eq_true rfl) (Nat.le_of_ble_eq_true rfl) (Nat.le_of_ble_eq_true rfl) (Nat.le_of_ble_eq_true rfl) (Nat.le_of_ble_eq_true rfl) (Nat.le_of_ble_eq_true rfl)
  · have hq := tw_if hq hc
    refine lv_iload_n hx hb dcX11_figure_9 rfl (lv_at hl 2 rfl) ?_
    refine lv_iconst (v := 5) hx hb dcX11_figure_10 (by decide) ?_
    refine lv_icmp_le (tgt := 24) hx hb dcX11_figure_11 (by decide) (fun hc => ?_) (fun hc => ?_)
    · have hq := tw_it hq hc
      refine lv_aload_n hx hb dcX11_figure_24 rfl (lv_at hl 0 rfl) ?_
      refine vgX11_27 hx hb hT hown hK hM hr0 dcX11_figure_25 ?_
      refine lv_aload_n hx hb dcX11_figure_28 rfl (lv_at hl 0 rfl) ?_
      refine vgX11_14 hx hb hT hown hK hM hr0 dcX11_figure_29 ?_
      refine lv_iload_n hx hb dcX11_figure_32 rfl (lv_at hl 1 rfl) ?_
      obtain ⟨z3, hcq, hq⟩ := tw_cl0 hq
      refine uw_calv hU hM (va_runV (As := [.ref (u (r0 + 1000)), .int x1]) (rest := []) ⟨hx, hb, hml, hown, hts⟩ (kc_X7_load l D q vl u hU.1 K (r0 + 4000) (r0 + 1000) x1 (cs_X11_3 hr0) (cs_X11_0 hr0) z1 z3 hcq) (cwV 2 hts (tw_gV2 wT_good wT_C (wT_C _ xq_821) (wT_C _ xq_468) (wT_C _ xq_469) (wT_C _ xq_54) (wT_C _ xq_470)) rfl rfl rfl cdd_X7_load ⟨(Nat.le_of_ble_eq_true rfl), (Nat.le_of_ble_eq_true rfl)⟩) (cw_preV hK hM (co_X7 (cs_X11_3 hr0)) rfl) rfl rfl hl.1 rfl (lv_room (Nat.le_of_ble_eq_true rfl)) dcX11_figure_33 ⟨(Nat.le_of_ble_eq_true rfl), (Nat.le_of_ble_eq_true rfl)⟩) (fun H locs hM => ?_)
      refine lv_iload_n hx hb dcX11_figure_36 rfl (lv_at hl 2 rfl) ?_
      by_cases hc : x2.toInt < 0 ∨ 4 < x2.toInt
      · have hq := tw_it hq hc
        refine lv_tableOut (tgt := 127) hx hb dcX11_figure_37 hc (by decide) ?_
        refine lv_aload_n hx hb dcX11_figure_127 rfl (lv_at hl 0 rfl) ?_
        refine vgX11_27 hx hb hT hown hK hM hr0 dcX11_figure_128 ?_
        obtain ⟨v5, z4, hcq, hq⟩ := tw_cl1 hq
        refine uw_cali hU hM (va_runV (As := []) (rest := []) ⟨hx, hb, hml, hown, hts⟩ (kc_X7_alternates l D q vl u hU.1 K (r0 + 4000) (cs_X11_3 hr0) z3 z4 v5 hcq) (cwV 0 hts (tw_gV2 wT_good wT_C (wT_C _ xq_824) (wT_C _ xq_825) (wT_C _ xq_826) (wT_C _ xq_54) (wT_C _ xq_578)) rfl rfl rfl cdd_X7_alternates ⟨(Nat.le_of_ble_eq_true rfl), (Nat.le_of_ble_eq_true rfl)⟩) (cw_preV hK hM (co_X7 (cs_X11_3 hr0)) rfl) rfl rfl hl.1 rfl (lv_room (Nat.le_of_ble_eq_true rfl)) dcX11_figure_131 ⟨(Nat.le_of_ble_eq_true rfl), (Nat.le_of_ble_eq_true rfl)⟩) (fun H locs hM => ?_)
        refine lv_if_eq (tgt := 141) hx hb dcX11_figure_134 (by decide) (fun hc => ?_) (fun hc => ?_)
        · have hq := tw_it hq hc
          refine lv_iconst (v := 0) hx hb dcX11_figure_141 (by decide) ?_
          exact ct_iret hx hb hr hlocks hM hq hQQ (Nat.le_of_ble_eq_true rfl) (Nat.le_of_ble_eq_true rfl) dcX11_figure_142
        · have hq := tw_if hq hc
          refine lv_iconst (v := 1) hx hb dcX11_figure_137 (by decide) ?_
          refine lv_goto (tgt := 142) hx hb dcX11_figure_138 (by decide) ?_
          exact ct_iret hx hb hr hlocks hM hq hQQ (Nat.le_of_ble_eq_true rfl) (Nat.le_of_ble_eq_true rfl) dcX11_figure_142
      · have hq := tw_if hq hc
        by_cases hc : x2 = 0
        · have hq := tw_it hq hc
          refine ow_topi (y := 0) hc ?_
          refine lv_tableIn (x := 0) (tgt := 72) hx hb dcX11_figure_37 (by decide) (by decide) rfl (by decide) ?_
          refine lv_aload_n hx hb dcX11_figure_72 rfl (lv_at hl 0 rfl) ?_
          refine vgX11_27 hx hb hT hown hK hM hr0 dcX11_figure_73 ?_
          refine vgX11_198 hx hb hT hown hK hM (cs_X11_3 hr0) hq dcX11_figure_76 (fun v6 hq => ?_)
          exact ct_iret hx hb hr hlocks hM hq hQQ (Nat.le_of_ble_eq_true rfl) (Nat.le_of_ble_eq_true rfl) dcX11_figure_79
        · have hq := tw_if hq hc
          by_cases hc : x2 = 1
          · have hq := tw_it hq hc
            refine ow_topi (y := 1) hc ?_
            refine lv_tableIn (x := 1) (tgt := 80) hx hb dcX11_figure_37 (by decide) (by decide) rfl (by decide) ?_
            refine lv_aload_n hx hb dcX11_figure_80 rfl (lv_at hl 0 rfl) ?_
            refine vgX11_27 hx hb hT hown hK hM hr0 dcX11_figure_81 ?_
            refine vgX11_201 hx hb hT hown hK hM (cs_X11_3 hr0) hq dcX11_figure_84 (fun v7 hq => ?_)
            exact ct_iret hx hb hr hlocks hM hq hQQ (Nat.le_of_ble_eq_true rfl) (Nat.le_of_ble_eq_true rfl) dcX11_figure_87
          · have hq := tw_if hq hc
            by_cases hc : x2 = 2
            · have hq := tw_it hq hc
              refine ow_topi (y := 2) hc ?_
              refine lv_tableIn (x := 2) (tgt := 88) hx hb dcX11_figure_37 (by decide) (by decide) rfl (by decide) ?_
              refine lv_aload_n hx hb dcX11_figure_88 rfl (lv_at hl 0 rfl) ?_
              refine vgX11_27 hx hb hT hown hK hM hr0 dcX11_figure_89 ?_
              refine vgX11_204 hx hb hT hown hK hM (cs_X11_3 hr0) hq dcX11_figure_92 (fun v8 hq => ?_)
              exact ct_iret hx hb hr hlocks hM hq hQQ (Nat.le_of_ble_eq_true rfl) (Nat.le_of_ble_eq_true rfl) dcX11_figure_95
            · have hq := tw_if hq hc
              by_cases hc : x2 = 3
              · have hq := tw_it hq hc
                refine ow_topi (y := 3) hc ?_
                refine lv_tableIn (x := 3) (tgt := 96) hx hb dcX11_figure_37 (by decide) (by decide) rfl (by decide) ?_
                refine lv_aload_n hx hb dcX11_figure_96 rfl (lv_at hl 0 rfl) ?_
                refine vgX11_27 hx hb hT hown hK hM hr0 dcX11_figure_97 ?_
                obtain ⟨z9, hcq, hq⟩ := tw_cl0 hq
                refine uw_calv hU hM (va_runV (As := []) (rest := []) ⟨hx, hb, hml, hown, hts⟩ (kc_X7_markParts l D q vl u hU.1 K (r0 + 4000) (cs_X11_3 hr0) z3 z9 hcq) (cwV 0 hts (tw_gV2 wT_good wT_C (wT_C _ xq_822) (wT_C _ xq_52) (wT_C _ xq_53) (wT_C _ xq_54) (wT_C _ xq_55)) rfl rfl rfl cdd_X7_markParts ⟨(Nat.le_of_ble_eq_true rfl), (Nat.le_of_ble_eq_true rfl)⟩) (cw_preV hK hM (co_X7 (cs_X11_3 hr0)) rfl) rfl rfl hl.1 rfl (lv_room (Nat.le_of_ble_eq_true rfl)) dcX11_figure_100 ⟨(Nat.le_of_ble_eq_true rfl), (Nat.le_of_ble_eq_true rfl)⟩) (fun H locs hM => ?_)
                refine lv_aload_n hx hb dcX11_figure_103 rfl (lv_at hl 0 rfl) ?_
                refine vgX11_27 hx hb hT hown hK hM hr0 dcX11_figure_104 ?_
                refine vgX11_210 hx hb hT hown hK hM (cs_X11_3 hr0) hq dcX11_figure_107 (fun v10 hq => ?_)
                refine lv_aload_n hx hb dcX11_figure_110 rfl (lv_at hl 0 rfl) ?_
                refine vgX11_27 hx hb hT hown hK hM hr0 dcX11_figure_111 ?_
                refine vgX11_204 hx hb hT hown hK hM (cs_X11_3 hr0) hq dcX11_figure_114 (fun v11 hq => ?_)
                refine lv_iadd hx hb dcX11_figure_117 ?_
                exact ct_iret hx hb hr hlocks hM hq hQQ (Nat.le_of_ble_eq_true rfl) (Nat.le_of_ble_eq_true rfl) dcX11_figure_118
              · have hq := tw_if hq hc
                by_cases hc : x2 = 4
                · have hq := tw_it hq hc
                  refine ow_topi (y := 4) hc ?_
                  refine lv_tableIn (x := 4) (tgt := 119) hx hb dcX11_figure_37 (by decide) (by decide) rfl (by decide) ?_
                  refine lv_aload_n hx hb dcX11_figure_119 rfl (lv_at hl 0 rfl) ?_
                  refine vgX11_27 hx hb hT hown hK hM hr0 dcX11_figure_120 ?_
                  obtain ⟨v13, z12, hcq, hq⟩ := tw_cl1 hq
                  refine uw_cali hU hM (va_runV (As := []) (rest := []) ⟨hx, hb, hml, hown, hts⟩ (kc_X7_writhe l D q vl u hU.1 K (r0 + 4000) (cs_X11_3 hr0) z3 z12 v13 hcq) (cwV 0 hts (tw_gV2 wT_good wT_C (wT_C _ xq_823) (wT_C _ xq_173) (wT_C _ xq_174) (wT_C _ xq_54) (wT_C _ xq_175)) rfl rfl rfl cdd_X7_writhe ⟨(Nat.le_of_ble_eq_true rfl), (Nat.le_of_ble_eq_true rfl)⟩) (cw_preV hK hM (co_X7 (cs_X11_3 hr0)) rfl) rfl rfl hl.1 rfl (lv_room (Nat.le_of_ble_eq_true rfl)) dcX11_figure_123 ⟨(Nat.le_of_ble_eq_true rfl), (Nat.le_of_ble_eq_true rfl)⟩) (fun H locs hM => ?_)
                  exact ct_iret hx hb hr hlocks hM hq hQQ (Nat.le_of_ble_eq_true rfl) (Nat.le_of_ble_eq_true rfl) dcX11_figure_126
                · have hq := tw_if hq hc
                  cases hq
    · have hq := tw_if hq hc
      obtain ⟨rfl, h9⟩ := Prod.mk.inj (Option.some.inj hq)
      obtain ⟨rfl, rfl⟩ := Prod.mk.inj h9
      exact ct_throw (k := 2) (text := "there are six figures") (cls := "java/lang/IllegalArgumentException") hx hb hlt hown hex hlocks (by rw [hml]; exact hl.1.symm) hTh (List.mem_of_getElem? (i := 7) rfl) rfl (by decide) (by decide +kernel) (hts _ (List.mem_cons_of_mem _ wT_k2)) (hts _ (List.mem_cons_of_mem _ wT_i2)) (fun w h => hts w (List.mem_cons_of_mem _ (wT_2 w h))) th9_2 tg9_2 hM dcX11_figure_14 dcX11_figure_17 dcX11_figure_18 dcX11_figure_20 dcX11_figure_23 hQQ (Nat.le_of_ble_eq_true rfl) (Nat.le_of_ble_eq_true rfl) (Nat.le_of_ble_eq_true rfl) (Nat.le_of_ble_eq_true rfl) (Nat.le_of_ble_eq_true rfl) (Nat.le_of_ble_eq_true rfl)
theorem dcX11_visit_0 : decode cX11_visit 0 = .ok (.aload_n 0, 1) := dw_at cX11_visit_k0 (p := 0) rfl (by decide +kernel)
theorem dcX11_visit_1 : decode cX11_visit 1 = .ok (.iload_n 1, 1) := dw_at cX11_visit_k0 (p := 1) rfl (by decide +kernel)
theorem dcX11_visit_2 : decode cX11_visit 2 = .ok (.invokevirtual 189, 3) := dw_at cX11_visit_k0 (p := 2) rfl (by decide +kernel)
theorem dcX11_visit_5 : decode cX11_visit 5 = .ok (.iload_n 2, 1) := dw_at cX11_visit_k0 (p := 5) rfl (by decide +kernel)
theorem dcX11_visit_6 : decode cX11_visit 6 = .ok (.ifCond .lt 18, 3) := dw_at cX11_visit_k0 (p := 6) rfl (by decide +kernel)
theorem dcX11_visit_9 : decode cX11_visit 9 = .ok (.iload_n 2, 1) := dw_at cX11_visit_k0 (p := 9) rfl (by decide +kernel)
theorem dcX11_visit_10 : decode cX11_visit 10 = .ok (.iconst 2, 1) := dw_at cX11_visit_k0 (p := 10) rfl (by decide +kernel)
theorem dcX11_visit_11 : decode cX11_visit 11 = .ok (.aload_n 0, 1) := dw_at cX11_visit_k0 (p := 11) rfl (by decide +kernel)
theorem dcX11_visit_12 : decode cX11_visit 12 = .ok (.getfield 14, 3) := dw_at cX11_visit_k0 (p := 12) rfl (by decide +kernel)
theorem dcX11_visit_15 : decode cX11_visit 15 = .ok (.getfield 220, 3) := dw_at cX11_visit_k0 (p := 15) rfl (by decide +kernel)
theorem dcX11_visit_18 : decode cX11_visit 18 = .ok (.iload_n 1, 1) := dw_at cX11_visit_k0 (p := 18) rfl (by decide +kernel)
theorem dcX11_visit_19 : decode cX11_visit 19 = .ok (.baload, 1) := dw_at cX11_visit_k0 (p := 19) rfl (by decide +kernel)
theorem dcX11_visit_20 : decode cX11_visit 20 = .ok (.imul, 1) := dw_at cX11_visit_k0 (p := 20) rfl (by decide +kernel)
theorem dcX11_visit_21 : decode cX11_visit 21 = .ok (.if_icmp .lt 13, 3) := dw_at cX11_visit_k0 (p := 21) rfl (by decide +kernel)
theorem dcX11_visit_24 : decode cX11_visit 24 = .ok (.new 164, 3) := dw_at cX11_visit_k1 (p := 0) rfl (by decide +kernel)
theorem dcX11_visit_27 : decode cX11_visit 27 = .ok (.dup, 1) := dw_at cX11_visit_k1 (p := 3) rfl (by decide +kernel)
theorem dcX11_visit_28 : decode cX11_visit 28 = .ok (.ldc 222, 2) := dw_at cX11_visit_k1 (p := 4) rfl (by decide +kernel)
theorem dcX11_visit_30 : decode cX11_visit 30 = .ok (.invokespecial 168, 3) := dw_at cX11_visit_k1 (p := 6) rfl (by decide +kernel)
theorem dcX11_visit_33 : decode cX11_visit 33 = .ok (.athrow, 1) := dw_at cX11_visit_k1 (p := 9) rfl (by decide +kernel)
theorem dcX11_visit_34 : decode cX11_visit 34 = .ok (.iload_n 3, 1) := dw_at cX11_visit_k1 (p := 10) rfl (by decide +kernel)
theorem dcX11_visit_35 : decode cX11_visit 35 = .ok (.ifCond .lt 8, 3) := dw_at cX11_visit_k1 (p := 11) rfl (by decide +kernel)
theorem dcX11_visit_38 : decode cX11_visit 38 = .ok (.iload_n 3, 1) := dw_at cX11_visit_k1 (p := 14) rfl (by decide +kernel)
theorem dcX11_visit_39 : decode cX11_visit 39 = .ok (.iconst 3, 1) := dw_at cX11_visit_k1 (p := 15) rfl (by decide +kernel)
theorem dcX11_visit_40 : decode cX11_visit 40 = .ok (.if_icmp .le 13, 3) := dw_at cX11_visit_k1 (p := 16) rfl (by decide +kernel)
theorem dcX11_visit_43 : decode cX11_visit 43 = .ok (.new 128, 3) := dw_at cX11_visit_k1 (p := 19) rfl (by decide +kernel)
theorem dcX11_visit_46 : decode cX11_visit 46 = .ok (.dup, 1) := dw_at cX11_visit_k1 (p := 22) rfl (by decide +kernel)
theorem dcX11_visit_47 : decode cX11_visit 47 = .ok (.ldc 224, 2) := dw_at cX11_visit_k1 (p := 23) rfl (by decide +kernel)
theorem dcX11_visit_49 : decode cX11_visit 49 = .ok (.invokespecial 132, 3) := dw_at cX11_visit_k2 (p := 0) rfl (by decide +kernel)
theorem dcX11_visit_52 : decode cX11_visit 52 = .ok (.athrow, 1) := dw_at cX11_visit_k2 (p := 3) rfl (by decide +kernel)
theorem dcX11_visit_53 : decode cX11_visit 53 = .ok (.aload_n 0, 1) := dw_at cX11_visit_k2 (p := 4) rfl (by decide +kernel)
theorem dcX11_visit_54 : decode cX11_visit 54 = .ok (.getfield 27, 3) := dw_at cX11_visit_k2 (p := 5) rfl (by decide +kernel)
theorem dcX11_visit_57 : decode cX11_visit 57 = .ok (.aload_n 0, 1) := dw_at cX11_visit_k2 (p := 8) rfl (by decide +kernel)
theorem dcX11_visit_58 : decode cX11_visit 58 = .ok (.getfield 14, 3) := dw_at cX11_visit_k2 (p := 9) rfl (by decide +kernel)
theorem dcX11_visit_61 : decode cX11_visit 61 = .ok (.iload_n 1, 1) := dw_at cX11_visit_k2 (p := 12) rfl (by decide +kernel)
theorem dcX11_visit_62 : decode cX11_visit 62 = .ok (.invokevirtual 194, 3) := dw_at cX11_visit_k2 (p := 13) rfl (by decide +kernel)
theorem dcX11_visit_65 : decode cX11_visit 65 = .ok (.aload_n 0, 1) := dw_at cX11_visit_k2 (p := 16) rfl (by decide +kernel)
theorem dcX11_visit_66 : decode cX11_visit 66 = .ok (.getfield 27, 3) := dw_at cX11_visit_k2 (p := 17) rfl (by decide +kernel)
theorem dcX11_visit_69 : decode cX11_visit 69 = .ok (.getfield 226, 3) := dw_at cX11_visit_k2 (p := 20) rfl (by decide +kernel)
theorem dcX11_visit_72 : decode cX11_visit 72 = .ok (.iload_n 2, 1) := dw_at cX11_visit_k2 (p := 23) rfl (by decide +kernel)
theorem dcX11_visit_73 : decode cX11_visit 73 = .ok (.iaload, 1) := dw_at cX11_visit_k3 (p := 0) rfl (by decide +kernel)
theorem dcX11_visit_74 : decode cX11_visit 74 = .ok (.istore 4, 2) := dw_at cX11_visit_k3 (p := 1) rfl (by decide +kernel)
theorem dcX11_visit_76 : decode cX11_visit 76 = .ok (.iload_n 3, 1) := dw_at cX11_visit_k3 (p := 3) rfl (by decide +kernel)
theorem dcX11_visit_77 : decode cX11_visit 77 = .ok (.tableswitch 48 0 2 #[27, 38, 43], 27) := by decide +kernel
theorem dcX11_visit_104 : decode cX11_visit 104 = .ok (.aload_n 0, 1) := dw_at cX11_visit_k4 (p := 0) rfl (by decide +kernel)
theorem dcX11_visit_105 : decode cX11_visit 105 = .ok (.getfield 27, 3) := dw_at cX11_visit_k4 (p := 1) rfl (by decide +kernel)
theorem dcX11_visit_108 : decode cX11_visit 108 = .ok (.getfield 229, 3) := dw_at cX11_visit_k4 (p := 4) rfl (by decide +kernel)
theorem dcX11_visit_111 : decode cX11_visit 111 = .ok (.iload 4, 2) := dw_at cX11_visit_k4 (p := 7) rfl (by decide +kernel)
theorem dcX11_visit_113 : decode cX11_visit 113 = .ok (.iaload, 1) := dw_at cX11_visit_k4 (p := 9) rfl (by decide +kernel)
theorem dcX11_visit_114 : decode cX11_visit 114 = .ok (.ireturn, 1) := dw_at cX11_visit_k4 (p := 10) rfl (by decide +kernel)
theorem dcX11_visit_115 : decode cX11_visit 115 = .ok (.iload 4, 2) := dw_at cX11_visit_k4 (p := 11) rfl (by decide +kernel)
theorem dcX11_visit_117 : decode cX11_visit 117 = .ok (.iconst 1, 1) := dw_at cX11_visit_k4 (p := 13) rfl (by decide +kernel)
theorem dcX11_visit_118 : decode cX11_visit 118 = .ok (.ishr, 1) := dw_at cX11_visit_k4 (p := 14) rfl (by decide +kernel)
theorem dcX11_visit_119 : decode cX11_visit 119 = .ok (.ireturn, 1) := dw_at cX11_visit_k4 (p := 15) rfl (by decide +kernel)
theorem dcX11_visit_120 : decode cX11_visit 120 = .ok (.iload 4, 2) := dw_at cX11_visit_k4 (p := 16) rfl (by decide +kernel)
theorem dcX11_visit_122 : decode cX11_visit 122 = .ok (.iconst 1, 1) := dw_at cX11_visit_k4 (p := 18) rfl (by decide +kernel)
theorem dcX11_visit_123 : decode cX11_visit 123 = .ok (.iand, 1) := dw_at cX11_visit_k4 (p := 19) rfl (by decide +kernel)
theorem dcX11_visit_124 : decode cX11_visit 124 = .ok (.ireturn, 1) := dw_at cX11_visit_k4 (p := 20) rfl (by decide +kernel)
theorem dcX11_visit_125 : decode cX11_visit 125 = .ok (.aload_n 0, 1) := dw_at cX11_visit_k4 (p := 21) rfl (by decide +kernel)
theorem dcX11_visit_126 : decode cX11_visit 126 = .ok (.getfield 27, 3) := dw_at cX11_visit_k4 (p := 22) rfl (by decide +kernel)
theorem dcX11_visit_129 : decode cX11_visit 129 = .ok (.getfield 232, 3) := dw_at cX11_visit_k5 (p := 0) rfl (by decide +kernel)
theorem dcX11_visit_132 : decode cX11_visit 132 = .ok (.iload 4, 2) := dw_at cX11_visit_k5 (p := 3) rfl (by decide +kernel)
theorem dcX11_visit_134 : decode cX11_visit 134 = .ok (.iconst 1, 1) := dw_at cX11_visit_k5 (p := 5) rfl (by decide +kernel)
theorem dcX11_visit_135 : decode cX11_visit 135 = .ok (.ishr, 1) := dw_at cX11_visit_k5 (p := 6) rfl (by decide +kernel)
theorem dcX11_visit_136 : decode cX11_visit 136 = .ok (.iaload, 1) := dw_at cX11_visit_k5 (p := 7) rfl (by decide +kernel)
theorem dcX11_visit_137 : decode cX11_visit 137 = .ok (.ireturn, 1) := dw_at cX11_visit_k5 (p := 8) rfl (by decide +kernel)
def cm_X11_visit_0 (vl : Nat → Nat) (K : Nat) (x1 : Int32) (x2 : Int32) (x3 : Int32) (r0 : Nat) (z : ow_MS) : Option (Nat × Int32 × ow_MS) :=
 tc0 (ce_X11_needDiagram vl K r0 x1 z) (fun k z => some (k, 0, z)) fun z1 => (if x2 < 0 then some (1, 0, z1)
 else crI (cX vl) z1 ((r0 + 1000) + 3) x1 fun v3 => (if x2 < (2 * v3) then (if x3 < 0 then some (2, 0, z1)
 else (if x3 ≤ 3 then cs0 (ce_X7_load vl K (r0 + 4000) (r0 + 1000) x1 z1) fun z4 => crI (cX vl) z4 ((r0 + 4000) + 4) x2 fun v5 => (if x3.toInt < 0 ∨ 2 < x3.toInt then crI (cX vl) z4 ((r0 + 4000) + 3) ((v5 : Int32) >>> ((1 : Int32) &&& 31)) fun v6 => some (0, v6, z4)
 else (if x3 = 0 then crI (cX vl) z4 ((r0 + 4000) + 5) v5 fun v7 => some (0, v7, z4)
 else (if x3 = 1 then some (0, ((v5 : Int32) >>> ((1 : Int32) &&& 31)), z4)
 else (if x3 = 2 then some (0, (v5 &&& 1), z4)
 else none))))
 else some (2, 0, z1)))
 else some (1, 0, z1)))
def ce_X11_visit (vl : Nat → Nat) (K : Nat) (r0 : Nat) (x1 : Int32) (x2 : Int32) (x3 : Int32) (z : ow_MS) : Option (Nat × Int32 × ow_MS) := cm_X11_visit_0 vl K x1 x2 x3 r0 z
abbrev wc_X11_visit : List Cond := .code yX11_visit cX11_visit 5 (some .int) :: wT
theorem cdd_X11_visit : yX11_visit.cls = RX11 ∧ yX11_visit.cls ≠ "java/lang/invoke/MethodHandle" ∧ yX11_visit.cls ≠ "java/lang/invoke/VarHandle" ∧ (parseMethodDescriptor yX11_visit.desc).map (fun d => d.parameters.length) = some 3 := by decide +kernel
set_option maxHeartbeats 4000000 in
set_option maxRecDepth 100000 in
theorem kc_X11_visit (l : Launch) (D : va_G) (q : Nat → ClassId) (vl u : Nat → Nat) (hU0 : tw_inj (cX vl) u) (hlt : l.stackTraces = false) (sa : Nat → Nat) (K : Nat) (r0 : Nat) (x1 : Int32) (x2 : Int32) (x3 : Int32) (hr0 : cw_X11 r0) (z z1 : ow_MS) (k9 : Nat) (r : Int32) (hq : ce_X11_visit vl K r0 x1 x2 x3 z = some (k9, r, z1)) : vx_Met l yX11_visit wc_X11_visit ({ frames := 7, cells := 2, slots := 12, locals := 111 } : Room) (va_Pc [.ref (u r0), .int x1, .int x2, .int x3] (cw_preT D q vl u sa z)) (va_Qi (fun x (_ : Unit) => k9 = 0 ∧ x = r) (fun _ t => va_P D vwCl (uw (cX vl) q u z1) t.heap) (tw_A (cX vl) u)) (ct_X D q vl u k9 z1) 2 12 (tw_A (cX vl) u) := by
  refine vx_ofW (cc := cX11_visit) (maxL := 5) (ret := (some .int)) (by decide) rfl ?_
  intro p e s m args below meth c s₁ B hml hex hv
  obtain ⟨rfl, hP, hK, hTh⟩ := hv
  have hx := B.exec
  have hb := B.bytes
  have hr := B.returns
  have hts := atoms_spec (ws := wc_X11_visit) B.pre
  have hT : ∀ w ∈ wC, w.before ([.ref (u r0), .int x1, .int x2, .int x3] : List Value).toArray s = true := fun w h => hts w (List.mem_cons_of_mem _ (wT_C w h))
  have hown : s.vm.findClass RX11 = some m.cls := findClass_of_methodNamed B.named
  have hlocks := B.notSynchronized
  have hU : uw_inj (cX vl) u (tw_A (cX vl) u) := ⟨hU0, fun h hh => ⟨h, hh, rfl⟩⟩
  have hM : uw_M D vwCl (cX vl) q (tw_A (cX vl) u) s.heap u z s.heap [] := ⟨hP, va_S.rf⟩
  have hl := lv_entry ([.ref (u r0), .int x1, .int x2, .int x3]) (n := 5) (Nat.le_of_ble_eq_true rfl)
  rw [lg_entry_eq]
  generalize (lg_sl ([.ref (u r0), .int x1, .int x2, .int x3]) ++ List.replicate (5 - (lg_sl ([.ref (u r0), .int x1, .int x2, .int x3])).length) Slot.unset).toArray = ls at hl ⊢
  have hl : lv_has ls 5 [(0, .ref (u r0)), (1, .int x1), (2, .int x2), (3, .int x3)] := hl
  refine ow_named (fun QQ hQQ => ?_)
  generalize ([.ref (u r0), .int x1, .int x2, .int x3] : List Value).toArray = args at hts hT hQQ ⊢
  have hq : cm_X11_visit_0 vl K x1 x2 x3 r0 z = some (k9, r, z1) := hq
  unfold cm_X11_visit_0 at hq
  suffices key : ∀ (H : Heap) (locs : List Loc), uw_M D vwCl (cX vl) q (tw_A (cX vl) u) s.heap u z H locs → W p l e ({ frames := 7, cells := 2, slots := 12, locals := 111 } : Room) s m args below meth c H locs 0 0 QQ (F0 m 0 ls []) from key s.heap [] hM
  intro H locs hM
  refine lv_aload_n hx hb dcX11_visit_0 rfl (lv_at hl 0 rfl) ?_
  refine lv_iload_n hx hb dcX11_visit_1 rfl (lv_at hl 1 rfl) ?_
  obtain ⟨k2, z1, hcq, hq⟩ := ct_tc0 hq
  refine ct_calv hU hM (vx_runV (As := [.int x1]) (rest := []) ⟨hx, hb, hml, hown, hts⟩ (kc_X11_needDiagram l D q vl u hU.1 hlt sa K r0 x1 hr0 z z1 k2 hcq) (cwV 1 hts (tw_gV2 wT_good (fun _ h => h) (wT_C _ xq_818) (wT_C _ xq_819) (wT_C _ xq_820) (wT_C _ xq_773) (wT_C _ xq_807)) rfl rfl rfl cdd_X11_needDiagram ⟨(Nat.le_of_ble_eq_true rfl), (Nat.le_of_ble_eq_true rfl)⟩) (ct_preV hK hTh hM (co_X11 hr0) rfl) rfl rfl hl.1 rfl (lv_room (Nat.le_of_ble_eq_true rfl)) dcX11_visit_2 ⟨(Nat.le_of_ble_eq_true rfl), (Nat.le_of_ble_eq_true rfl)⟩) (fun E ce q9 H locs hk hE hM hce hcv hcl => ?_) (fun H locs hk hM => ?_)
  · have hq := tw_if hq hk
    obtain ⟨rfl, h9⟩ := Prod.mk.inj (Option.some.inj hq)
    obtain ⟨rfl, rfl⟩ := Prod.mk.inj h9
    exact ct_out hex hlocks hk hE hM hce hcv hcl hQQ (Nat.le_of_ble_eq_true rfl) (Nat.le_of_ble_eq_true rfl)
  have hq := tw_it hq hk
  refine lv_iload_n hx hb dcX11_visit_5 rfl (lv_at hl 2 rfl) ?_
  refine lv_if_lt (tgt := 24) hx hb dcX11_visit_6 (by decide) (fun hc => ?_) (fun hc => ?_)
  · have hq := tw_it hq hc
    obtain ⟨rfl, h9⟩ := Prod.mk.inj (Option.some.inj hq)
    obtain ⟨rfl, rfl⟩ := Prod.mk.inj h9
    exact ct_throw (k := 1) (text := "no such visit") (cls := "java/lang/IndexOutOfBoundsException") hx hb hlt hown hex hlocks (by rw [hml]; exact hl.1.symm) hTh (List.mem_of_getElem? (i := 8) rfl) rfl (by decide) (by decide +kernel) (hts _ (List.mem_cons_of_mem _ wT_k1)) (hts _ (List.mem_cons_of_mem _ wT_i1)) (fun w h => hts w (List.mem_cons_of_mem _ (wT_1 w h))) th9_1 tg9_1 hM dcX11_visit_24 dcX11_visit_27 dcX11_visit_28 dcX11_visit_30 dcX11_visit_33 hQQ (Nat.le_of_ble_eq_true rfl) (Nat.le_of_ble_eq_true rfl) (Nat.le_of_ble_eq_true rfl) (Nat.le_of_ble_eq_true rfl) (Nat.le_of_ble_eq_true rfl) (Nat.le_of_ble_eq_true rfl)
  · have hq := tw_if hq hc
    refine lv_iload_n hx hb dcX11_visit_9 rfl (lv_at hl 2 rfl) ?_
    refine lv_iconst (v := 2) hx hb dcX11_visit_10 (by decide) ?_
    refine lv_aload_n hx hb dcX11_visit_11 rfl (lv_at hl 0 rfl) ?_
    refine vgX11_14 hx hb hT hown hK hM hr0 dcX11_visit_12 ?_
    refine vgX11_220 hx hb hT hown hK hM (cs_X11_0 hr0) dcX11_visit_15 ?_
    refine lv_iload_n hx hb dcX11_visit_18 rfl (lv_at hl 1 rfl) ?_
    refine uw_bald cX_ok hx hb hK hM (cr_X3_2 (cs_X11_0 hr0)) hq dcX11_visit_19 (fun v3 hq => ?_)
    refine lv_imul hx hb dcX11_visit_20 ?_
    refine lv_icmp_lt (tgt := 34) hx hb dcX11_visit_21 (by decide) (fun hc => ?_) (fun hc => ?_)
    · have hq := tw_it hq hc
      refine lv_iload_n hx hb dcX11_visit_34 rfl (lv_at hl 3 rfl) ?_
      refine lv_if_lt (tgt := 43) hx hb dcX11_visit_35 (by decide) (fun hc => ?_) (fun hc => ?_)
      · have hq := tw_it hq hc
        obtain ⟨rfl, h9⟩ := Prod.mk.inj (Option.some.inj hq)
        obtain ⟨rfl, rfl⟩ := Prod.mk.inj h9
        exact ct_throw (k := 2) (text := "a visit has four numbers") (cls := "java/lang/IllegalArgumentException") hx hb hlt hown hex hlocks (by rw [hml]; exact hl.1.symm) hTh (List.mem_of_getElem? (i := 9) rfl) rfl (by decide) (by decide +kernel) (hts _ (List.mem_cons_of_mem _ wT_k2)) (hts _ (List.mem_cons_of_mem _ wT_i2)) (fun w h => hts w (List.mem_cons_of_mem _ (wT_2 w h))) th9_2 tg9_2 hM dcX11_visit_43 dcX11_visit_46 dcX11_visit_47 dcX11_visit_49 dcX11_visit_52 hQQ (Nat.le_of_ble_eq_true rfl) (Nat.le_of_ble_eq_true rfl) (Nat.le_of_ble_eq_true rfl) (Nat.le_of_ble_eq_true rfl) (Nat.le_of_ble_eq_true rfl) (Nat.le_of_ble_eq_true rfl)
      · have hq := tw_if hq hc
        refine lv_iload_n hx hb dcX11_visit_38 rfl (lv_at hl 3 rfl) ?_
        refine lv_iconst (v := 3) hx hb dcX11_visit_39 (by decide) ?_
        refine lv_icmp_le (tgt := 53) hx hb dcX11_visit_40 (by decide) (fun hc => ?_) (fun hc => ?_)
        · have hq := tw_it hq hc
          refine lv_aload_n hx hb dcX11_visit_53 rfl (lv_at hl 0 rfl) ?_
          refine vgX11_27 hx hb hT hown hK hM hr0 dcX11_visit_54 ?_
          refine lv_aload_n hx hb dcX11_visit_57 rfl (lv_at hl 0 rfl) ?_
          refine vgX11_14 hx hb hT hown hK hM hr0 dcX11_visit_58 ?_
          refine lv_iload_n hx hb dcX11_visit_61 rfl (lv_at hl 1 rfl) ?_
          obtain ⟨z4, hcq, hq⟩ := tw_cl0 hq
          refine uw_calv hU hM (va_runV (As := [.ref (u (r0 + 1000)), .int x1]) (rest := []) ⟨hx, hb, hml, hown, hts⟩ (kc_X7_load l D q vl u hU.1 K (r0 + 4000) (r0 + 1000) x1 (cs_X11_3 hr0) (cs_X11_0 hr0) z1 z4 hcq) (cwV 2 hts (tw_gV2 wT_good wT_C (wT_C _ xq_821) (wT_C _ xq_468) (wT_C _ xq_469) (wT_C _ xq_54) (wT_C _ xq_470)) rfl rfl rfl cdd_X7_load ⟨(Nat.le_of_ble_eq_true rfl), (Nat.le_of_ble_eq_true rfl)⟩) (cw_preV hK hM (co_X7 (cs_X11_3 hr0)) rfl) rfl rfl hl.1 rfl (lv_room (Nat.le_of_ble_eq_true rfl)) dcX11_visit_62 ⟨(Nat.le_of_ble_eq_true rfl), (Nat.le_of_ble_eq_true rfl)⟩) (fun H locs hM => ?_)
          refine lv_aload_n hx hb dcX11_visit_65 rfl (lv_at hl 0 rfl) ?_
          refine vgX11_27 hx hb hT hown hK hM hr0 dcX11_visit_66 ?_
          refine vgX11_226 hx hb hT hown hK hM (cs_X11_3 hr0) dcX11_visit_69 ?_
          refine lv_iload_n hx hb dcX11_visit_72 rfl (lv_at hl 2 rfl) ?_
          refine uw_iald cX_ok hx hb hK hM (cr_X7_3 (cs_X11_3 hr0)) hq dcX11_visit_73 (fun v5 hq => ?_)
          refine lv_istore (lv' := [(4, .int v5), (0, .ref (u r0)), (1, .int x1), (2, .int x2), (3, .int x3)]) hx hb dcX11_visit_74 hl (by decide) rfl (fun ls hl => ?_)
          refine lv_iload_n hx hb dcX11_visit_76 rfl (lv_at hl 4 rfl) ?_
          by_cases hc : x3.toInt < 0 ∨ 2 < x3.toInt
          · have hq := tw_it hq hc
            refine lv_tableOut (tgt := 125) hx hb dcX11_visit_77 hc (by decide) ?_
            refine lv_aload_n hx hb dcX11_visit_125 rfl (lv_at hl 1 rfl) ?_
            refine vgX11_27 hx hb hT hown hK hM hr0 dcX11_visit_126 ?_
            refine vgX11_232 hx hb hT hown hK hM (cs_X11_3 hr0) dcX11_visit_129 ?_
            refine lv_iload hx hb dcX11_visit_132 (lv_at hl 0 rfl) ?_
            refine lv_iconst (v := 1) hx hb dcX11_visit_134 (by decide) ?_
            refine lv_ishr hx hb dcX11_visit_135 ?_
            refine uw_iald cX_ok hx hb hK hM (cr_X7_2 (cs_X11_3 hr0)) hq dcX11_visit_136 (fun v6 hq => ?_)
            exact ct_iret hx hb hr hlocks hM hq hQQ (Nat.le_of_ble_eq_true rfl) (Nat.le_of_ble_eq_true rfl) dcX11_visit_137
          · have hq := tw_if hq hc
            by_cases hc : x3 = 0
            · have hq := tw_it hq hc
              refine ow_topi (y := 0) hc ?_
              refine lv_tableIn (x := 0) (tgt := 104) hx hb dcX11_visit_77 (by decide) (by decide) rfl (by decide) ?_
              refine lv_aload_n hx hb dcX11_visit_104 rfl (lv_at hl 1 rfl) ?_
              refine vgX11_27 hx hb hT hown hK hM hr0 dcX11_visit_105 ?_
              refine vgX11_229 hx hb hT hown hK hM (cs_X11_3 hr0) dcX11_visit_108 ?_
              refine lv_iload hx hb dcX11_visit_111 (lv_at hl 0 rfl) ?_
              refine uw_iald cX_ok hx hb hK hM (cr_X7_4 (cs_X11_3 hr0)) hq dcX11_visit_113 (fun v7 hq => ?_)
              exact ct_iret hx hb hr hlocks hM hq hQQ (Nat.le_of_ble_eq_true rfl) (Nat.le_of_ble_eq_true rfl) dcX11_visit_114
            · have hq := tw_if hq hc
              by_cases hc : x3 = 1
              · have hq := tw_it hq hc
                refine ow_topi (y := 1) hc ?_
                refine lv_tableIn (x := 1) (tgt := 115) hx hb dcX11_visit_77 (by decide) (by decide) rfl (by decide) ?_
                refine lv_iload hx hb dcX11_visit_115 (lv_at hl 0 rfl) ?_
                refine lv_iconst (v := 1) hx hb dcX11_visit_117 (by decide) ?_
                refine lv_ishr hx hb dcX11_visit_118 ?_
                exact ct_iret hx hb hr hlocks hM hq hQQ (Nat.le_of_ble_eq_true rfl) (Nat.le_of_ble_eq_true rfl) dcX11_visit_119
              · have hq := tw_if hq hc
                by_cases hc : x3 = 2
                · have hq := tw_it hq hc
                  refine ow_topi (y := 2) hc ?_
                  refine lv_tableIn (x := 2) (tgt := 120) hx hb dcX11_visit_77 (by decide) (by decide) rfl (by decide) ?_
                  refine lv_iload hx hb dcX11_visit_120 (lv_at hl 0 rfl) ?_
                  refine lv_iconst (v := 1) hx hb dcX11_visit_122 (by decide) ?_
                  refine lv_iand hx hb dcX11_visit_123 ?_
                  exact ct_iret hx hb hr hlocks hM hq hQQ (Nat.le_of_ble_eq_true rfl) (Nat.le_of_ble_eq_true rfl) dcX11_visit_124
                · have hq := tw_if hq hc
                  cases hq
        · have hq := tw_if hq hc
          obtain ⟨rfl, h9⟩ := Prod.mk.inj (Option.some.inj hq)
          obtain ⟨rfl, rfl⟩ := Prod.mk.inj h9
          exact ct_throw (k := 2) (text := "a visit has four numbers") (cls := "java/lang/IllegalArgumentException") hx hb hlt hown hex hlocks (by rw [hml]; exact hl.1.symm) hTh (List.mem_of_getElem? (i := 9) rfl) rfl (by decide) (by decide +kernel) (hts _ (List.mem_cons_of_mem _ wT_k2)) (hts _ (List.mem_cons_of_mem _ wT_i2)) (fun w h => hts w (List.mem_cons_of_mem _ (wT_2 w h))) th9_2 tg9_2 hM dcX11_visit_43 dcX11_visit_46 dcX11_visit_47 dcX11_visit_49 dcX11_visit_52 hQQ (Nat.le_of_ble_eq_true rfl) (Nat.le_of_ble_eq_true rfl) (Nat.le_of_ble_eq_true rfl) (Nat.le_of_ble_eq_true rfl) (Nat.le_of_ble_eq_true rfl) (Nat.le_of_ble_eq_true rfl)
    · have hq := tw_if hq hc
      obtain ⟨rfl, h9⟩ := Prod.mk.inj (Option.some.inj hq)
      obtain ⟨rfl, rfl⟩ := Prod.mk.inj h9
      exact ct_throw (k := 1) (text := "no such visit") (cls := "java/lang/IndexOutOfBoundsException") hx hb hlt hown hex hlocks (by rw [hml]; exact hl.1.symm) hTh (List.mem_of_getElem? (i := 8) rfl) rfl (by decide) (by decide +kernel) (hts _ (List.mem_cons_of_mem _ wT_k1)) (hts _ (List.mem_cons_of_mem _ wT_i1)) (fun w h => hts w (List.mem_cons_of_mem _ (wT_1 w h))) th9_1 tg9_1 hM dcX11_visit_24 dcX11_visit_27 dcX11_visit_28 dcX11_visit_30 dcX11_visit_33 hQQ (Nat.le_of_ble_eq_true rfl) (Nat.le_of_ble_eq_true rfl) (Nat.le_of_ble_eq_true rfl) (Nat.le_of_ble_eq_true rfl) (Nat.le_of_ble_eq_true rfl) (Nat.le_of_ble_eq_true rfl)
theorem dcX11_needComponent_0 : decode cX11_needComponent 0 = .ok (.iload_n 1, 1) := by decide +kernel
theorem dcX11_needComponent_1 : decode cX11_needComponent 1 = .ok (.ifCond .lt 14, 3) := by decide +kernel
theorem dcX11_needComponent_4 : decode cX11_needComponent 4 = .ok (.iload_n 1, 1) := by decide +kernel
theorem dcX11_needComponent_5 : decode cX11_needComponent 5 = .ok (.aload_n 0, 1) := by decide +kernel
theorem dcX11_needComponent_6 : decode cX11_needComponent 6 = .ok (.getfield 27, 3) := by decide +kernel
theorem dcX11_needComponent_9 : decode cX11_needComponent 9 = .ok (.getfield 201, 3) := by decide +kernel
theorem dcX11_needComponent_12 : decode cX11_needComponent 12 = .ok (.if_icmp .lt 13, 3) := by decide +kernel
theorem dcX11_needComponent_15 : decode cX11_needComponent 15 = .ok (.new 164, 3) := by decide +kernel
theorem dcX11_needComponent_18 : decode cX11_needComponent 18 = .ok (.dup, 1) := by decide +kernel
theorem dcX11_needComponent_19 : decode cX11_needComponent 19 = .ok (.ldc 240, 2) := by decide +kernel
theorem dcX11_needComponent_21 : decode cX11_needComponent 21 = .ok (.invokespecial 168, 3) := by decide +kernel
theorem dcX11_needComponent_24 : decode cX11_needComponent 24 = .ok (.athrow, 1) := by decide +kernel
theorem dcX11_needComponent_25 : decode cX11_needComponent 25 = .ok (.return_, 1) := by decide +kernel
def cm_X11_needComponent_0 (vl : Nat → Nat) (K : Nat) (x1 : Int32) (r0 : Nat) (z : ow_MS) : Option (Nat × ow_MS) :=
 (if x1 < 0 then some (1, z)
 else rdF z ((r0 + 4000) + 10) fun v1 => (if x1 < v1 then some (0, z)
 else some (1, z)))
def ce_X11_needComponent (vl : Nat → Nat) (K : Nat) (r0 : Nat) (x1 : Int32) (z : ow_MS) : Option (Nat × ow_MS) := cm_X11_needComponent_0 vl K x1 r0 z
abbrev wc_X11_needComponent : List Cond := .code yX11_needComponent cX11_needComponent 2 none :: wT
theorem cdd_X11_needComponent : yX11_needComponent.cls = RX11 ∧ yX11_needComponent.cls ≠ "java/lang/invoke/MethodHandle" ∧ yX11_needComponent.cls ≠ "java/lang/invoke/VarHandle" ∧ (parseMethodDescriptor yX11_needComponent.desc).map (fun d => d.parameters.length) = some 1 := by decide +kernel
set_option maxHeartbeats 4000000 in
set_option maxRecDepth 100000 in
theorem kc_X11_needComponent (l : Launch) (D : va_G) (q : Nat → ClassId) (vl u : Nat → Nat) (hU0 : tw_inj (cX vl) u) (hlt : l.stackTraces = false) (sa : Nat → Nat) (K : Nat) (r0 : Nat) (x1 : Int32) (hr0 : cw_X11 r0) (z z1 : ow_MS) (k9 : Nat) (hq : ce_X11_needComponent vl K r0 x1 z = some (k9, z1)) : vx_Met l yX11_needComponent wc_X11_needComponent ({ frames := 6, cells := 1, slots := 6, locals := 90 } : Room) (va_Pc [.ref (u r0), .int x1] (cw_preT D q vl u sa z)) (va_Qv (fun (_ : Unit) => k9 = 0) (fun _ t => va_P D vwCl (uw (cX vl) q u z1) t.heap) (tw_A (cX vl) u)) (ct_X D q vl u k9 z1) 1 6 (tw_A (cX vl) u) := by
  refine vx_ofW (cc := cX11_needComponent) (maxL := 2) (ret := none) (by decide) rfl ?_
  intro p e s m args below meth c s₁ B hml hex hv
  obtain ⟨rfl, hP, hK, hTh⟩ := hv
  have hx := B.exec
  have hb := B.bytes
  have hr := B.returns
  have hts := atoms_spec (ws := wc_X11_needComponent) B.pre
  have hT : ∀ w ∈ wC, w.before ([.ref (u r0), .int x1] : List Value).toArray s = true := fun w h => hts w (List.mem_cons_of_mem _ (wT_C w h))
  have hown : s.vm.findClass RX11 = some m.cls := findClass_of_methodNamed B.named
  have hlocks := B.notSynchronized
  have hU : uw_inj (cX vl) u (tw_A (cX vl) u) := ⟨hU0, fun h hh => ⟨h, hh, rfl⟩⟩
  have hM : uw_M D vwCl (cX vl) q (tw_A (cX vl) u) s.heap u z s.heap [] := ⟨hP, va_S.rf⟩
  have hl := lv_entry ([.ref (u r0), .int x1]) (n := 2) (Nat.le_of_ble_eq_true rfl)
  rw [lg_entry_eq]
  generalize (lg_sl ([.ref (u r0), .int x1]) ++ List.replicate (2 - (lg_sl ([.ref (u r0), .int x1])).length) Slot.unset).toArray = ls at hl ⊢
  have hl : lv_has ls 2 [(0, .ref (u r0)), (1, .int x1)] := hl
  refine ow_named (fun QQ hQQ => ?_)
  generalize ([.ref (u r0), .int x1] : List Value).toArray = args at hts hT hQQ ⊢
  have hq : cm_X11_needComponent_0 vl K x1 r0 z = some (k9, z1) := hq
  unfold cm_X11_needComponent_0 at hq
  suffices key : ∀ (H : Heap) (locs : List Loc), uw_M D vwCl (cX vl) q (tw_A (cX vl) u) s.heap u z H locs → W p l e ({ frames := 6, cells := 1, slots := 6, locals := 90 } : Room) s m args below meth c H locs 0 0 QQ (F0 m 0 ls []) from key s.heap [] hM
  intro H locs hM
  refine lv_iload_n hx hb dcX11_needComponent_0 rfl (lv_at hl 1 rfl) ?_
  refine lv_if_lt (tgt := 15) hx hb dcX11_needComponent_1 (by decide) (fun hc => ?_) (fun hc => ?_)
  · have hq := tw_it hq hc
    obtain ⟨rfl, rfl⟩ := Prod.mk.inj (Option.some.inj hq)
    exact ct_throw (k := 1) (text := "no such component") (cls := "java/lang/IndexOutOfBoundsException") hx hb hlt hown hex hlocks (by rw [hml]; exact hl.1.symm) hTh (List.mem_of_getElem? (i := 11) rfl) rfl (by decide) (by decide +kernel) (hts _ (List.mem_cons_of_mem _ wT_k1)) (hts _ (List.mem_cons_of_mem _ wT_i1)) (fun w h => hts w (List.mem_cons_of_mem _ (wT_1 w h))) th9_1 tg9_1 hM dcX11_needComponent_15 dcX11_needComponent_18 dcX11_needComponent_19 dcX11_needComponent_21 dcX11_needComponent_24 hQQ (Nat.le_of_ble_eq_true rfl) (Nat.le_of_ble_eq_true rfl) (Nat.le_of_ble_eq_true rfl) (Nat.le_of_ble_eq_true rfl) (Nat.le_of_ble_eq_true rfl) (Nat.le_of_ble_eq_true rfl)
  · have hq := tw_if hq hc
    refine lv_iload_n hx hb dcX11_needComponent_4 rfl (lv_at hl 1 rfl) ?_
    refine lv_aload_n hx hb dcX11_needComponent_5 rfl (lv_at hl 0 rfl) ?_
    refine vgX11_27 hx hb hT hown hK hM hr0 dcX11_needComponent_6 ?_
    refine vgX11_201 hx hb hT hown hK hM (cs_X11_3 hr0) hq dcX11_needComponent_9 (fun v1 hq => ?_)
    refine lv_icmp_lt (tgt := 25) hx hb dcX11_needComponent_12 (by decide) (fun hc => ?_) (fun hc => ?_)
    · have hq := tw_it hq hc
      exact ct_vret hx hb hr hlocks hM hq hQQ (Nat.le_of_ble_eq_true rfl) (Nat.le_of_ble_eq_true rfl) dcX11_needComponent_25
    · have hq := tw_if hq hc
      obtain ⟨rfl, rfl⟩ := Prod.mk.inj (Option.some.inj hq)
      exact ct_throw (k := 1) (text := "no such component") (cls := "java/lang/IndexOutOfBoundsException") hx hb hlt hown hex hlocks (by rw [hml]; exact hl.1.symm) hTh (List.mem_of_getElem? (i := 11) rfl) rfl (by decide) (by decide +kernel) (hts _ (List.mem_cons_of_mem _ wT_k1)) (hts _ (List.mem_cons_of_mem _ wT_i1)) (fun w h => hts w (List.mem_cons_of_mem _ (wT_1 w h))) th9_1 tg9_1 hM dcX11_needComponent_15 dcX11_needComponent_18 dcX11_needComponent_19 dcX11_needComponent_21 dcX11_needComponent_24 hQQ (Nat.le_of_ble_eq_true rfl) (Nat.le_of_ble_eq_true rfl) (Nat.le_of_ble_eq_true rfl) (Nat.le_of_ble_eq_true rfl) (Nat.le_of_ble_eq_true rfl) (Nat.le_of_ble_eq_true rfl)
theorem dcX11_linking_0 : decode cX11_linking 0 = .ok (.aload_n 0, 1) := dw_at cX11_linking_k0 (p := 0) rfl (by decide +kernel)
theorem dcX11_linking_1 : decode cX11_linking 1 = .ok (.iload_n 1, 1) := dw_at cX11_linking_k0 (p := 1) rfl (by decide +kernel)
theorem dcX11_linking_2 : decode cX11_linking 2 = .ok (.invokevirtual 189, 3) := dw_at cX11_linking_k0 (p := 2) rfl (by decide +kernel)
theorem dcX11_linking_5 : decode cX11_linking 5 = .ok (.aload_n 0, 1) := dw_at cX11_linking_k0 (p := 5) rfl (by decide +kernel)
theorem dcX11_linking_6 : decode cX11_linking 6 = .ok (.getfield 27, 3) := dw_at cX11_linking_k0 (p := 6) rfl (by decide +kernel)
theorem dcX11_linking_9 : decode cX11_linking 9 = .ok (.aload_n 0, 1) := dw_at cX11_linking_k0 (p := 9) rfl (by decide +kernel)
theorem dcX11_linking_10 : decode cX11_linking 10 = .ok (.getfield 14, 3) := dw_at cX11_linking_k0 (p := 10) rfl (by decide +kernel)
theorem dcX11_linking_13 : decode cX11_linking 13 = .ok (.iload_n 1, 1) := dw_at cX11_linking_k0 (p := 13) rfl (by decide +kernel)
theorem dcX11_linking_14 : decode cX11_linking 14 = .ok (.invokevirtual 194, 3) := dw_at cX11_linking_k0 (p := 14) rfl (by decide +kernel)
theorem dcX11_linking_17 : decode cX11_linking 17 = .ok (.aload_n 0, 1) := dw_at cX11_linking_k0 (p := 17) rfl (by decide +kernel)
theorem dcX11_linking_18 : decode cX11_linking 18 = .ok (.iload_n 2, 1) := dw_at cX11_linking_k0 (p := 18) rfl (by decide +kernel)
theorem dcX11_linking_19 : decode cX11_linking 19 = .ok (.invokevirtual 235, 3) := dw_at cX11_linking_k0 (p := 19) rfl (by decide +kernel)
theorem dcX11_linking_22 : decode cX11_linking 22 = .ok (.aload_n 0, 1) := dw_at cX11_linking_k0 (p := 22) rfl (by decide +kernel)
theorem dcX11_linking_23 : decode cX11_linking 23 = .ok (.iload_n 3, 1) := dw_at cX11_linking_k0 (p := 23) rfl (by decide +kernel)
theorem dcX11_linking_24 : decode cX11_linking 24 = .ok (.invokevirtual 235, 3) := dw_at cX11_linking_k1 (p := 0) rfl (by decide +kernel)
theorem dcX11_linking_27 : decode cX11_linking 27 = .ok (.iload_n 2, 1) := dw_at cX11_linking_k1 (p := 3) rfl (by decide +kernel)
theorem dcX11_linking_28 : decode cX11_linking 28 = .ok (.iload_n 3, 1) := dw_at cX11_linking_k1 (p := 4) rfl (by decide +kernel)
theorem dcX11_linking_29 : decode cX11_linking 29 = .ok (.if_icmp .ne 13, 3) := dw_at cX11_linking_k1 (p := 5) rfl (by decide +kernel)
theorem dcX11_linking_32 : decode cX11_linking 32 = .ok (.new 128, 3) := dw_at cX11_linking_k1 (p := 8) rfl (by decide +kernel)
theorem dcX11_linking_35 : decode cX11_linking 35 = .ok (.dup, 1) := dw_at cX11_linking_k1 (p := 11) rfl (by decide +kernel)
theorem dcX11_linking_36 : decode cX11_linking 36 = .ok (.ldc 238, 2) := dw_at cX11_linking_k1 (p := 12) rfl (by decide +kernel)
theorem dcX11_linking_38 : decode cX11_linking 38 = .ok (.invokespecial 132, 3) := dw_at cX11_linking_k1 (p := 14) rfl (by decide +kernel)
theorem dcX11_linking_41 : decode cX11_linking 41 = .ok (.athrow, 1) := dw_at cX11_linking_k1 (p := 17) rfl (by decide +kernel)
theorem dcX11_linking_42 : decode cX11_linking 42 = .ok (.iconst 0, 1) := dw_at cX11_linking_k1 (p := 18) rfl (by decide +kernel)
theorem dcX11_linking_43 : decode cX11_linking 43 = .ok (.istore 4, 2) := dw_at cX11_linking_k1 (p := 19) rfl (by decide +kernel)
theorem dcX11_linking_45 : decode cX11_linking 45 = .ok (.iconst 0, 1) := dw_at cX11_linking_k1 (p := 21) rfl (by decide +kernel)
theorem dcX11_linking_46 : decode cX11_linking 46 = .ok (.istore 5, 2) := dw_at cX11_linking_k1 (p := 22) rfl (by decide +kernel)
theorem dcX11_linking_48 : decode cX11_linking 48 = .ok (.iload 5, 2) := dw_at cX11_linking_k2 (p := 0) rfl (by decide +kernel)
theorem dcX11_linking_50 : decode cX11_linking 50 = .ok (.aload_n 0, 1) := dw_at cX11_linking_k2 (p := 2) rfl (by decide +kernel)
theorem dcX11_linking_51 : decode cX11_linking 51 = .ok (.getfield 27, 3) := dw_at cX11_linking_k2 (p := 3) rfl (by decide +kernel)
theorem dcX11_linking_54 : decode cX11_linking 54 = .ok (.getfield 198, 3) := dw_at cX11_linking_k2 (p := 6) rfl (by decide +kernel)
theorem dcX11_linking_57 : decode cX11_linking 57 = .ok (.if_icmp .ge 78, 3) := dw_at cX11_linking_k2 (p := 9) rfl (by decide +kernel)
theorem dcX11_linking_60 : decode cX11_linking 60 = .ok (.aload_n 0, 1) := dw_at cX11_linking_k2 (p := 12) rfl (by decide +kernel)
theorem dcX11_linking_61 : decode cX11_linking 61 = .ok (.getfield 27, 3) := dw_at cX11_linking_k2 (p := 13) rfl (by decide +kernel)
theorem dcX11_linking_64 : decode cX11_linking 64 = .ok (.getfield 229, 3) := dw_at cX11_linking_k2 (p := 16) rfl (by decide +kernel)
theorem dcX11_linking_67 : decode cX11_linking 67 = .ok (.iconst 2, 1) := dw_at cX11_linking_k2 (p := 19) rfl (by decide +kernel)
theorem dcX11_linking_68 : decode cX11_linking 68 = .ok (.iload 5, 2) := dw_at cX11_linking_k2 (p := 20) rfl (by decide +kernel)
theorem dcX11_linking_70 : decode cX11_linking 70 = .ok (.imul, 1) := dw_at cX11_linking_k2 (p := 22) rfl (by decide +kernel)
theorem dcX11_linking_71 : decode cX11_linking 71 = .ok (.iaload, 1) := dw_at cX11_linking_k2 (p := 23) rfl (by decide +kernel)
theorem dcX11_linking_72 : decode cX11_linking 72 = .ok (.istore 6, 2) := dw_at cX11_linking_k3 (p := 0) rfl (by decide +kernel)
theorem dcX11_linking_74 : decode cX11_linking 74 = .ok (.aload_n 0, 1) := dw_at cX11_linking_k3 (p := 2) rfl (by decide +kernel)
theorem dcX11_linking_75 : decode cX11_linking 75 = .ok (.getfield 27, 3) := dw_at cX11_linking_k3 (p := 3) rfl (by decide +kernel)
theorem dcX11_linking_78 : decode cX11_linking 78 = .ok (.getfield 229, 3) := dw_at cX11_linking_k3 (p := 6) rfl (by decide +kernel)
theorem dcX11_linking_81 : decode cX11_linking 81 = .ok (.iconst 2, 1) := dw_at cX11_linking_k3 (p := 9) rfl (by decide +kernel)
theorem dcX11_linking_82 : decode cX11_linking 82 = .ok (.iload 5, 2) := dw_at cX11_linking_k3 (p := 10) rfl (by decide +kernel)
theorem dcX11_linking_84 : decode cX11_linking 84 = .ok (.imul, 1) := dw_at cX11_linking_k3 (p := 12) rfl (by decide +kernel)
theorem dcX11_linking_85 : decode cX11_linking 85 = .ok (.iconst 1, 1) := dw_at cX11_linking_k3 (p := 13) rfl (by decide +kernel)
theorem dcX11_linking_86 : decode cX11_linking 86 = .ok (.iadd, 1) := dw_at cX11_linking_k3 (p := 14) rfl (by decide +kernel)
theorem dcX11_linking_87 : decode cX11_linking 87 = .ok (.iaload, 1) := dw_at cX11_linking_k3 (p := 15) rfl (by decide +kernel)
theorem dcX11_linking_88 : decode cX11_linking 88 = .ok (.istore 7, 2) := dw_at cX11_linking_k3 (p := 16) rfl (by decide +kernel)
theorem dcX11_linking_90 : decode cX11_linking 90 = .ok (.iload 6, 2) := dw_at cX11_linking_k3 (p := 18) rfl (by decide +kernel)
theorem dcX11_linking_92 : decode cX11_linking 92 = .ok (.iload_n 2, 1) := dw_at cX11_linking_k3 (p := 20) rfl (by decide +kernel)
theorem dcX11_linking_93 : decode cX11_linking 93 = .ok (.if_icmp .ne 9, 3) := dw_at cX11_linking_k3 (p := 21) rfl (by decide +kernel)
theorem dcX11_linking_96 : decode cX11_linking 96 = .ok (.iload 7, 2) := dw_at cX11_linking_k4 (p := 0) rfl (by decide +kernel)
theorem dcX11_linking_98 : decode cX11_linking 98 = .ok (.iload_n 3, 1) := dw_at cX11_linking_k4 (p := 2) rfl (by decide +kernel)
theorem dcX11_linking_99 : decode cX11_linking 99 = .ok (.if_icmp .eq 15, 3) := dw_at cX11_linking_k4 (p := 3) rfl (by decide +kernel)
theorem dcX11_linking_102 : decode cX11_linking 102 = .ok (.iload 6, 2) := dw_at cX11_linking_k4 (p := 6) rfl (by decide +kernel)
theorem dcX11_linking_104 : decode cX11_linking 104 = .ok (.iload_n 3, 1) := dw_at cX11_linking_k4 (p := 8) rfl (by decide +kernel)
theorem dcX11_linking_105 : decode cX11_linking 105 = .ok (.if_icmp .ne 24, 3) := dw_at cX11_linking_k4 (p := 9) rfl (by decide +kernel)
theorem dcX11_linking_108 : decode cX11_linking 108 = .ok (.iload 7, 2) := dw_at cX11_linking_k4 (p := 12) rfl (by decide +kernel)
theorem dcX11_linking_110 : decode cX11_linking 110 = .ok (.iload_n 2, 1) := dw_at cX11_linking_k4 (p := 14) rfl (by decide +kernel)
theorem dcX11_linking_111 : decode cX11_linking 111 = .ok (.if_icmp .ne 18, 3) := dw_at cX11_linking_k4 (p := 15) rfl (by decide +kernel)
theorem dcX11_linking_114 : decode cX11_linking 114 = .ok (.iload 4, 2) := dw_at cX11_linking_k4 (p := 18) rfl (by decide +kernel)
theorem dcX11_linking_116 : decode cX11_linking 116 = .ok (.aload_n 0, 1) := dw_at cX11_linking_k4 (p := 20) rfl (by decide +kernel)
theorem dcX11_linking_117 : decode cX11_linking 117 = .ok (.getfield 27, 3) := dw_at cX11_linking_k4 (p := 21) rfl (by decide +kernel)
theorem dcX11_linking_120 : decode cX11_linking 120 = .ok (.getfield 232, 3) := dw_at cX11_linking_k5 (p := 0) rfl (by decide +kernel)
theorem dcX11_linking_123 : decode cX11_linking 123 = .ok (.iload 5, 2) := dw_at cX11_linking_k5 (p := 3) rfl (by decide +kernel)
theorem dcX11_linking_125 : decode cX11_linking 125 = .ok (.iaload, 1) := dw_at cX11_linking_k5 (p := 5) rfl (by decide +kernel)
theorem dcX11_linking_126 : decode cX11_linking 126 = .ok (.iadd, 1) := dw_at cX11_linking_k5 (p := 6) rfl (by decide +kernel)
theorem dcX11_linking_127 : decode cX11_linking 127 = .ok (.istore 4, 2) := dw_at cX11_linking_k5 (p := 7) rfl (by decide +kernel)
theorem dcX11_linking_129 : decode cX11_linking 129 = .ok (.iinc 5 1, 3) := dw_at cX11_linking_k5 (p := 9) rfl (by decide +kernel)
theorem dcX11_linking_132 : decode cX11_linking 132 = .ok (.goto (-84), 3) := dw_at cX11_linking_k5 (p := 12) rfl (by decide +kernel)
theorem dcX11_linking_135 : decode cX11_linking 135 = .ok (.iload 4, 2) := dw_at cX11_linking_k5 (p := 15) rfl (by decide +kernel)
theorem dcX11_linking_137 : decode cX11_linking 137 = .ok (.iconst 2, 1) := dw_at cX11_linking_k5 (p := 17) rfl (by decide +kernel)
theorem dcX11_linking_138 : decode cX11_linking 138 = .ok (.idiv, 1) := dw_at cX11_linking_k5 (p := 18) rfl (by decide +kernel)
theorem dcX11_linking_139 : decode cX11_linking 139 = .ok (.ireturn, 1) := dw_at cX11_linking_k5 (p := 19) rfl (by decide +kernel)
def cm_X11_linking_0 (vl : Nat → Nat) (K : Nat) (go : Nat → Int32 → Int32 → Int32 → Int32 → Int32 → Int32 → Int32 → Nat → ow_MS → Option (Nat × Int32 × ow_MS)) (x1 : Int32) (x2 : Int32) (x3 : Int32) (x4 : Int32) (x5 : Int32) (x6 : Int32) (x7 : Int32) (r0 : Nat) (z : ow_MS) : Option (Nat × Int32 × ow_MS) :=
 tc0 (ce_X11_needDiagram vl K r0 x1 z) (fun k z => some (k, 0, z)) fun z1 => cs0 (ce_X7_load vl K (r0 + 4000) (r0 + 1000) x1 z1) fun z3 => tc0 (ce_X11_needComponent vl K r0 x2 z3) (fun k z => some (k, 0, z)) fun z4 => tc0 (ce_X11_needComponent vl K r0 x3 z4) (fun k z => some (k, 0, z)) fun z6 => (if x2 = x3 then some (2, 0, z6)
 else go 1 x1 x2 x3 0 0 0 0 r0 z6)
def cm_X11_linking_1 (vl : Nat → Nat) (K : Nat) (go : Nat → Int32 → Int32 → Int32 → Int32 → Int32 → Int32 → Int32 → Nat → ow_MS → Option (Nat × Int32 × ow_MS)) (x1 : Int32) (x2 : Int32) (x3 : Int32) (x4 : Int32) (x5 : Int32) (x6 : Int32) (x7 : Int32) (r0 : Nat) (z : ow_MS) : Option (Nat × Int32 × ow_MS) :=
 rdF z ((r0 + 4000) + 8) fun v8 => (if v8 ≤ x5 then nzI 2 (some (0, (x4 / 2), z))
 else crI (cX vl) z ((r0 + 4000) + 5) (2 * x5) fun v9 => crI (cX vl) z ((r0 + 4000) + 5) ((2 * x5) + 1) fun v10 => (if v9 = x2 then (if v10 = x3 then go 3 x1 x2 x3 x4 x5 v9 v10 r0 z
 else go 2 x1 x2 x3 x4 x5 v9 v10 r0 z)
 else go 2 x1 x2 x3 x4 x5 v9 v10 r0 z))
def cm_X11_linking_2 (vl : Nat → Nat) (K : Nat) (go : Nat → Int32 → Int32 → Int32 → Int32 → Int32 → Int32 → Int32 → Nat → ow_MS → Option (Nat × Int32 × ow_MS)) (x1 : Int32) (x2 : Int32) (x3 : Int32) (x4 : Int32) (x5 : Int32) (x6 : Int32) (x7 : Int32) (r0 : Nat) (z : ow_MS) : Option (Nat × Int32 × ow_MS) :=
 (if x6 = x3 then (if x7 = x2 then go 3 x1 x2 x3 x4 x5 x6 x7 r0 z
 else go 4 x1 x2 x3 x4 x5 x6 x7 r0 z)
 else go 4 x1 x2 x3 x4 x5 x6 x7 r0 z)
def cm_X11_linking_3 (vl : Nat → Nat) (K : Nat) (go : Nat → Int32 → Int32 → Int32 → Int32 → Int32 → Int32 → Int32 → Nat → ow_MS → Option (Nat × Int32 × ow_MS)) (x1 : Int32) (x2 : Int32) (x3 : Int32) (x4 : Int32) (x5 : Int32) (x6 : Int32) (x7 : Int32) (r0 : Nat) (z : ow_MS) : Option (Nat × Int32 × ow_MS) :=
 crI (cX vl) z ((r0 + 4000) + 3) x5 fun v11 => go 4 x1 x2 x3 (x4 + v11) x5 x6 x7 r0 z
def cm_X11_linking_4 (vl : Nat → Nat) (K : Nat) (go : Nat → Int32 → Int32 → Int32 → Int32 → Int32 → Int32 → Int32 → Nat → ow_MS → Option (Nat × Int32 × ow_MS)) (x1 : Int32) (x2 : Int32) (x3 : Int32) (x4 : Int32) (x5 : Int32) (x6 : Int32) (x7 : Int32) (r0 : Nat) (z : ow_MS) : Option (Nat × Int32 × ow_MS) :=
 go 1 x1 x2 x3 x4 (x5 + 1) 0 0 r0 z
def cb_X11_linking (vl : Nat → Nat) (K : Nat) (go : Nat → Int32 → Int32 → Int32 → Int32 → Int32 → Int32 → Int32 → Nat → ow_MS → Option (Nat × Int32 × ow_MS)) (L : Nat) (x1 : Int32) (x2 : Int32) (x3 : Int32) (x4 : Int32) (x5 : Int32) (x6 : Int32) (x7 : Int32) (r0 : Nat) (z : ow_MS) : Option (Nat × Int32 × ow_MS) := match L with
  | 0 => cm_X11_linking_0 vl K go x1 x2 x3 x4 x5 x6 x7 r0 z
  | 1 => cm_X11_linking_1 vl K go x1 x2 x3 x4 x5 x6 x7 r0 z
  | 2 => cm_X11_linking_2 vl K go x1 x2 x3 x4 x5 x6 x7 r0 z
  | 3 => cm_X11_linking_3 vl K go x1 x2 x3 x4 x5 x6 x7 r0 z
  | 4 => cm_X11_linking_4 vl K go x1 x2 x3 x4 x5 x6 x7 r0 z
  | _ => none
def c_X11_linking (vl : Nat → Nat) (K : Nat) : Nat → Nat → Int32 → Int32 → Int32 → Int32 → Int32 → Int32 → Int32 → Nat → ow_MS → Option (Nat × Int32 × ow_MS)
  | 0 => fun _ _ _ _ _ _ _ _ _ _ => none
  | k + 1 => cb_X11_linking vl K (c_X11_linking vl K k)
def ce_X11_linking (vl : Nat → Nat) (K : Nat) (r0 : Nat) (x1 : Int32) (x2 : Int32) (x3 : Int32) (z : ow_MS) : Option (Nat × Int32 × ow_MS) := c_X11_linking vl K K 0 x1 x2 x3 0 0 0 0 r0 z
abbrev wc_X11_linking : List Cond := .code yX11_linking cX11_linking 8 (some .int) :: wT
theorem cdd_X11_linking : yX11_linking.cls = RX11 ∧ yX11_linking.cls ≠ "java/lang/invoke/MethodHandle" ∧ yX11_linking.cls ≠ "java/lang/invoke/VarHandle" ∧ (parseMethodDescriptor yX11_linking.desc).map (fun d => d.parameters.length) = some 3 := by decide +kernel
set_option maxHeartbeats 4000000 in
set_option maxRecDepth 100000 in
theorem kc_X11_linking (l : Launch) (D : va_G) (q : Nat → ClassId) (vl u : Nat → Nat) (hU0 : tw_inj (cX vl) u) (hlt : l.stackTraces = false) (sa : Nat → Nat) (K : Nat) (r0 : Nat) (x1 : Int32) (x2 : Int32) (x3 : Int32) (hr0 : cw_X11 r0) (z z1 : ow_MS) (k9 : Nat) (r : Int32) (hq : ce_X11_linking vl K r0 x1 x2 x3 z = some (k9, r, z1)) : vx_Met l yX11_linking wc_X11_linking ({ frames := 7, cells := 4, slots := 24, locals := 111 } : Room) (va_Pc [.ref (u r0), .int x1, .int x2, .int x3] (cw_preT D q vl u sa z)) (va_Qi (fun x (_ : Unit) => k9 = 0 ∧ x = r) (fun _ t => va_P D vwCl (uw (cX vl) q u z1) t.heap) (tw_A (cX vl) u)) (ct_X D q vl u k9 z1) 4 24 (tw_A (cX vl) u) := by
  refine vx_ofW (cc := cX11_linking) (maxL := 8) (ret := (some .int)) (by decide) rfl ?_
  intro p e s m args below meth c s₁ B hml hex hv
  obtain ⟨rfl, hP, hK, hTh⟩ := hv
  have hx := B.exec
  have hb := B.bytes
  have hr := B.returns
  have hts := atoms_spec (ws := wc_X11_linking) B.pre
  have hT : ∀ w ∈ wC, w.before ([.ref (u r0), .int x1, .int x2, .int x3] : List Value).toArray s = true := fun w h => hts w (List.mem_cons_of_mem _ (wT_C w h))
  have hown : s.vm.findClass RX11 = some m.cls := findClass_of_methodNamed B.named
  have hlocks := B.notSynchronized
  have hU : uw_inj (cX vl) u (tw_A (cX vl) u) := ⟨hU0, fun h hh => ⟨h, hh, rfl⟩⟩
  have hM : uw_M D vwCl (cX vl) q (tw_A (cX vl) u) s.heap u z s.heap [] := ⟨hP, va_S.rf⟩
  have hl := lv_entry ([.ref (u r0), .int x1, .int x2, .int x3]) (n := 8) (Nat.le_of_ble_eq_true rfl)
  rw [lg_entry_eq]
  generalize (lg_sl ([.ref (u r0), .int x1, .int x2, .int x3]) ++ List.replicate (8 - (lg_sl ([.ref (u r0), .int x1, .int x2, .int x3])).length) Slot.unset).toArray = ls at hl ⊢
  have hl : lv_has ls 8 [(0, .ref (u r0)), (1, .int x1), (2, .int x2), (3, .int x3)] := hl
  refine ow_named (fun QQ hQQ => ?_)
  generalize ([.ref (u r0), .int x1, .int x2, .int x3] : List Value).toArray = args at hts hT hQQ ⊢
  have key : ∀ k : Nat, (∀ (x1 : Int32) (x2 : Int32) (x3 : Int32) (x4 : Int32) (x5 : Int32) (x6 : Int32) (x7 : Int32) (r0 : Nat) (z : ow_MS) (H : Heap) (locs : List Loc) (ls : Array Slot), cw_X11 r0 → uw_M D vwCl (cX vl) q (tw_A (cX vl) u) s.heap u z H locs → lv_has ls 8 [(0, .ref (u r0)), (1, .int x1), (2, .int x2), (3, .int x3)] → c_X11_linking vl K k 0 x1 x2 x3 x4 x5 x6 x7 r0 z = some (k9, r, z1) → W p l e ({ frames := 7, cells := 4, slots := 24, locals := 111 } : Room) s m args below meth c H locs 0 0 QQ (F0 m 0 ls [])) ∧ (∀ (x1 : Int32) (x2 : Int32) (x3 : Int32) (x4 : Int32) (x5 : Int32) (x6 : Int32) (x7 : Int32) (r0 : Nat) (z : ow_MS) (H : Heap) (locs : List Loc) (ls : Array Slot), cw_X11 r0 → uw_M D vwCl (cX vl) q (tw_A (cX vl) u) s.heap u z H locs → lv_has ls 8 [(0, .ref (u r0)), (1, .int x1), (2, .int x2), (3, .int x3), (4, .int x4), (5, .int x5)] → c_X11_linking vl K k 1 x1 x2 x3 x4 x5 x6 x7 r0 z = some (k9, r, z1) → W p l e ({ frames := 7, cells := 4, slots := 24, locals := 111 } : Room) s m args below meth c H locs 3 18 QQ (F0 m 48 ls [])) ∧ (∀ (x1 : Int32) (x2 : Int32) (x3 : Int32) (x4 : Int32) (x5 : Int32) (x6 : Int32) (x7 : Int32) (r0 : Nat) (z : ow_MS) (H : Heap) (locs : List Loc) (ls : Array Slot), cw_X11 r0 → uw_M D vwCl (cX vl) q (tw_A (cX vl) u) s.heap u z H locs → lv_has ls 8 [(0, .ref (u r0)), (1, .int x1), (2, .int x2), (3, .int x3), (4, .int x4), (5, .int x5), (6, .int x6), (7, .int x7)] → c_X11_linking vl K k 2 x1 x2 x3 x4 x5 x6 x7 r0 z = some (k9, r, z1) → W p l e ({ frames := 7, cells := 4, slots := 24, locals := 111 } : Room) s m args below meth c H locs 3 18 QQ (F0 m 102 ls [])) ∧ (∀ (x1 : Int32) (x2 : Int32) (x3 : Int32) (x4 : Int32) (x5 : Int32) (x6 : Int32) (x7 : Int32) (r0 : Nat) (z : ow_MS) (H : Heap) (locs : List Loc) (ls : Array Slot), cw_X11 r0 → uw_M D vwCl (cX vl) q (tw_A (cX vl) u) s.heap u z H locs → lv_has ls 8 [(0, .ref (u r0)), (1, .int x1), (2, .int x2), (3, .int x3), (4, .int x4), (5, .int x5), (6, .int x6), (7, .int x7)] → c_X11_linking vl K k 3 x1 x2 x3 x4 x5 x6 x7 r0 z = some (k9, r, z1) → W p l e ({ frames := 7, cells := 4, slots := 24, locals := 111 } : Room) s m args below meth c H locs 3 18 QQ (F0 m 114 ls [])) ∧ (∀ (x1 : Int32) (x2 : Int32) (x3 : Int32) (x4 : Int32) (x5 : Int32) (x6 : Int32) (x7 : Int32) (r0 : Nat) (z : ow_MS) (H : Heap) (locs : List Loc) (ls : Array Slot), cw_X11 r0 → uw_M D vwCl (cX vl) q (tw_A (cX vl) u) s.heap u z H locs → lv_has ls 8 [(0, .ref (u r0)), (1, .int x1), (2, .int x2), (3, .int x3), (4, .int x4), (5, .int x5), (6, .int x6), (7, .int x7)] → c_X11_linking vl K k 4 x1 x2 x3 x4 x5 x6 x7 r0 z = some (k9, r, z1) → W p l e ({ frames := 7, cells := 4, slots := 24, locals := 111 } : Room) s m args below meth c H locs 3 18 QQ (F0 m 129 ls [])) := by
    intro k
    induction k with
    | zero => exact ⟨fun _ _ _ _ _ _ _ _ _ _ _ _ _ _ _ hq => cw_no hq, fun _ _ _ _ _ _ _ _ _ _ _ _ _ _ _ hq => cw_no hq, fun _ _ _ _ _ _ _ _ _ _ _ _ _ _ _ hq => cw_no hq, fun _ _ _ _ _ _ _ _ _ _ _ _ _ _ _ hq => cw_no hq, fun _ _ _ _ _ _ _ _ _ _ _ _ _ _ _ hq => cw_no hq⟩
    | succ k ih =>
      obtain ⟨ih_0, ih_1, ih_2, ih_3, ih_4⟩ := ih
      refine ⟨?_, ?_, ?_, ?_, ?_⟩
      · intro x1 x2 x3 x4 x5 x6 x7 r0 z H locs ls hr0 hM hl hq
        have hq : cm_X11_linking_0 vl K (c_X11_linking vl K k) x1 x2 x3 x4 x5 x6 x7 r0 z = some (k9, r, z1) := hq
        unfold cm_X11_linking_0 at hq
        refine lv_aload_n hx hb dcX11_linking_0 rfl (lv_at hl 0 rfl) ?_
        refine lv_iload_n hx hb dcX11_linking_1 rfl (lv_at hl 1 rfl) ?_
        obtain ⟨k2, z1, hcq, hq⟩ := ct_tc0 hq
        refine ct_calv hU hM (vx_runV (As := [.int x1]) (rest := []) ⟨hx, hb, hml, hown, hts⟩ (kc_X11_needDiagram l D q vl u hU.1 hlt sa K r0 x1 hr0 z z1 k2 hcq) (cwV 1 hts (tw_gV2 wT_good (fun _ h => h) (wT_C _ xq_818) (wT_C _ xq_819) (wT_C _ xq_820) (wT_C _ xq_773) (wT_C _ xq_807)) rfl rfl rfl cdd_X11_needDiagram ⟨(Nat.le_of_ble_eq_true rfl), (Nat.le_of_ble_eq_true rfl)⟩) (ct_preV hK hTh hM (co_X11 hr0) rfl) rfl rfl hl.1 rfl (lv_room (Nat.le_of_ble_eq_true rfl)) dcX11_linking_2 ⟨(Nat.le_of_ble_eq_true rfl), (Nat.le_of_ble_eq_true rfl)⟩) (fun E ce q9 H locs hk hE hM hce hcv hcl => ?_) (fun H locs hk hM => ?_)
        · have hq := tw_if hq hk
          obtain ⟨rfl, h9⟩ := Prod.mk.inj (Option.some.inj hq)
          obtain ⟨rfl, rfl⟩ := Prod.mk.inj h9
          exact ct_out hex hlocks hk hE hM hce hcv hcl hQQ (Nat.le_of_ble_eq_true rfl) (Nat.le_of_ble_eq_true rfl)
        have hq := tw_it hq hk
        refine lv_aload_n hx hb dcX11_linking_5 rfl (lv_at hl 0 rfl) ?_
        refine vgX11_27 hx hb hT hown hK hM hr0 dcX11_linking_6 ?_
        refine lv_aload_n hx hb dcX11_linking_9 rfl (lv_at hl 0 rfl) ?_
        refine vgX11_14 hx hb hT hown hK hM hr0 dcX11_linking_10 ?_
        refine lv_iload_n hx hb dcX11_linking_13 rfl (lv_at hl 1 rfl) ?_
        obtain ⟨z3, hcq, hq⟩ := tw_cl0 hq
        refine uw_calv hU hM (va_runV (As := [.ref (u (r0 + 1000)), .int x1]) (rest := []) ⟨hx, hb, hml, hown, hts⟩ (kc_X7_load l D q vl u hU.1 K (r0 + 4000) (r0 + 1000) x1 (cs_X11_3 hr0) (cs_X11_0 hr0) z1 z3 hcq) (cwV 2 hts (tw_gV2 wT_good wT_C (wT_C _ xq_821) (wT_C _ xq_468) (wT_C _ xq_469) (wT_C _ xq_54) (wT_C _ xq_470)) rfl rfl rfl cdd_X7_load ⟨(Nat.le_of_ble_eq_true rfl), (Nat.le_of_ble_eq_true rfl)⟩) (cw_preV hK hM (co_X7 (cs_X11_3 hr0)) rfl) rfl rfl hl.1 rfl (lv_room (Nat.le_of_ble_eq_true rfl)) dcX11_linking_14 ⟨(Nat.le_of_ble_eq_true rfl), (Nat.le_of_ble_eq_true rfl)⟩) (fun H locs hM => ?_)
        refine lv_aload_n hx hb dcX11_linking_17 rfl (lv_at hl 0 rfl) ?_
        refine lv_iload_n hx hb dcX11_linking_18 rfl (lv_at hl 2 rfl) ?_
        obtain ⟨k5, z4, hcq, hq⟩ := ct_tc0 hq
        refine ct_calv hU hM (vx_runV (As := [.int x2]) (rest := []) ⟨hx, hb, hml, hown, hts⟩ (kc_X11_needComponent l D q vl u hU.1 hlt sa K r0 x2 hr0 z3 z4 k5 hcq) (cwV 1 hts (tw_gV2 wT_good (fun _ h => h) (wT_C _ xq_833) (wT_C _ xq_834) (wT_C _ xq_835) (wT_C _ xq_773) (wT_C _ xq_836)) rfl rfl rfl cdd_X11_needComponent ⟨(Nat.le_of_ble_eq_true rfl), (Nat.le_of_ble_eq_true rfl)⟩) (ct_preV hK hTh hM (co_X11 hr0) rfl) rfl rfl hl.1 rfl (lv_room (Nat.le_of_ble_eq_true rfl)) dcX11_linking_19 ⟨(Nat.le_of_ble_eq_true rfl), (Nat.le_of_ble_eq_true rfl)⟩) (fun E ce q9 H locs hk hE hM hce hcv hcl => ?_) (fun H locs hk hM => ?_)
        · have hq := tw_if hq hk
          obtain ⟨rfl, h9⟩ := Prod.mk.inj (Option.some.inj hq)
          obtain ⟨rfl, rfl⟩ := Prod.mk.inj h9
          exact ct_out hex hlocks hk hE hM hce hcv hcl hQQ (Nat.le_of_ble_eq_true rfl) (Nat.le_of_ble_eq_true rfl)
        have hq := tw_it hq hk
        refine lv_aload_n hx hb dcX11_linking_22 rfl (lv_at hl 0 rfl) ?_
        refine lv_iload_n hx hb dcX11_linking_23 rfl (lv_at hl 3 rfl) ?_
        obtain ⟨k7, z6, hcq, hq⟩ := ct_tc0 hq
        refine ct_calv hU hM (vx_runV (As := [.int x3]) (rest := []) ⟨hx, hb, hml, hown, hts⟩ (kc_X11_needComponent l D q vl u hU.1 hlt sa K r0 x3 hr0 z4 z6 k7 hcq) (cwV 1 hts (tw_gV2 wT_good (fun _ h => h) (wT_C _ xq_833) (wT_C _ xq_834) (wT_C _ xq_835) (wT_C _ xq_773) (wT_C _ xq_836)) rfl rfl rfl cdd_X11_needComponent ⟨(Nat.le_of_ble_eq_true rfl), (Nat.le_of_ble_eq_true rfl)⟩) (ct_preV hK hTh hM (co_X11 hr0) rfl) rfl rfl hl.1 rfl (lv_room (Nat.le_of_ble_eq_true rfl)) dcX11_linking_24 ⟨(Nat.le_of_ble_eq_true rfl), (Nat.le_of_ble_eq_true rfl)⟩) (fun E ce q9 H locs hk hE hM hce hcv hcl => ?_) (fun H locs hk hM => ?_)
        · have hq := tw_if hq hk
          obtain ⟨rfl, h9⟩ := Prod.mk.inj (Option.some.inj hq)
          obtain ⟨rfl, rfl⟩ := Prod.mk.inj h9
          exact ct_out hex hlocks hk hE hM hce hcv hcl hQQ (Nat.le_of_ble_eq_true rfl) (Nat.le_of_ble_eq_true rfl)
        have hq := tw_it hq hk
        refine lv_iload_n hx hb dcX11_linking_27 rfl (lv_at hl 2 rfl) ?_
        refine lv_iload_n hx hb dcX11_linking_28 rfl (lv_at hl 3 rfl) ?_
        refine lv_icmp_ne (tgt := 42) hx hb dcX11_linking_29 (by decide) (fun hc => ?_) (fun hc => ?_)
        · have hq := tw_if hq hc
          refine lv_iconst (v := 0) hx hb dcX11_linking_42 (by decide) ?_
          refine lv_istore (lv' := [(4, .int 0), (0, .ref (u r0)), (1, .int x1), (2, .int x2), (3, .int x3)]) hx hb dcX11_linking_43 hl (by decide) rfl (fun ls hl => ?_)
          refine lv_iconst (v := 0) hx hb dcX11_linking_45 (by decide) ?_
          refine lv_istore (lv' := [(5, .int 0), (4, .int 0), (0, .ref (u r0)), (1, .int x1), (2, .int x2), (3, .int x3)]) hx hb dcX11_linking_46 hl (by decide) rfl (fun ls hl => ?_)
          refine W.widen (k := 3) (n := 18) (Nat.le_of_ble_eq_true rfl) (Nat.le_of_ble_eq_true rfl) ?_
          exact ih_1 x1 x2 x3 0 0 0 0 r0 z6 H locs ls hr0 hM (lv_sub hl [2, 3, 4, 5, 1, 0] rfl) hq
        · have hq := tw_it hq hc
          obtain ⟨rfl, h9⟩ := Prod.mk.inj (Option.some.inj hq)
          obtain ⟨rfl, rfl⟩ := Prod.mk.inj h9
          exact ct_throw (k := 2) (text := "two components are needed") (cls := "java/lang/IllegalArgumentException") hx hb hlt hown hex hlocks (by rw [hml]; exact hl.1.symm) hTh (List.mem_of_getElem? (i := 10) rfl) rfl (by decide) (by decide +kernel) (hts _ (List.mem_cons_of_mem _ wT_k2)) (hts _ (List.mem_cons_of_mem _ wT_i2)) (fun w h => hts w (List.mem_cons_of_mem _ (wT_2 w h))) th9_2 tg9_2 hM dcX11_linking_32 dcX11_linking_35 dcX11_linking_36 dcX11_linking_38 dcX11_linking_41 hQQ (Nat.le_of_ble_eq_true rfl) (Nat.le_of_ble_eq_true rfl) (Nat.le_of_ble_eq_true rfl) (Nat.le_of_ble_eq_true rfl) (Nat.le_of_ble_eq_true rfl) (Nat.le_of_ble_eq_true rfl)
      · intro x1 x2 x3 x4 x5 x6 x7 r0 z H locs ls hr0 hM hl hq
        have hq : cm_X11_linking_1 vl K (c_X11_linking vl K k) x1 x2 x3 x4 x5 x6 x7 r0 z = some (k9, r, z1) := hq
        unfold cm_X11_linking_1 at hq
        refine lv_iload hx hb dcX11_linking_48 (lv_at hl 5 rfl) ?_
        refine lv_aload_n hx hb dcX11_linking_50 rfl (lv_at hl 0 rfl) ?_
        refine vgX11_27 hx hb hT hown hK hM hr0 dcX11_linking_51 ?_
        refine vgX11_198 hx hb hT hown hK hM (cs_X11_3 hr0) hq dcX11_linking_54 (fun v8 hq => ?_)
        refine lv_icmp_ge (tgt := 135) hx hb dcX11_linking_57 (by decide) (fun hc => ?_) (fun hc => ?_)
        · have hq := tw_it hq hc
          refine lv_iload hx hb dcX11_linking_135 (lv_at hl 4 rfl) ?_
          refine lv_iconst (v := 2) hx hb dcX11_linking_137 (by decide) ?_
          obtain ⟨hz, hq⟩ := tw_nzI hq
          refine lv_idiv hx hb dcX11_linking_138 hz ?_
          exact ct_iret hx hb hr hlocks hM hq hQQ (Nat.le_of_ble_eq_true rfl) (Nat.le_of_ble_eq_true rfl) dcX11_linking_139
        · have hq := tw_if hq hc
          refine lv_aload_n hx hb dcX11_linking_60 rfl (lv_at hl 0 rfl) ?_
          refine vgX11_27 hx hb hT hown hK hM hr0 dcX11_linking_61 ?_
          refine vgX11_229 hx hb hT hown hK hM (cs_X11_3 hr0) dcX11_linking_64 ?_
          refine lv_iconst (v := 2) hx hb dcX11_linking_67 (by decide) ?_
          refine lv_iload hx hb dcX11_linking_68 (lv_at hl 5 rfl) ?_
          refine lv_imul hx hb dcX11_linking_70 ?_
          refine uw_iald cX_ok hx hb hK hM (cr_X7_4 (cs_X11_3 hr0)) hq dcX11_linking_71 (fun v9 hq => ?_)
          refine lv_istore (lv' := [(6, .int v9), (0, .ref (u r0)), (1, .int x1), (2, .int x2), (3, .int x3), (4, .int x4), (5, .int x5)]) hx hb dcX11_linking_72 hl (by decide) rfl (fun ls hl => ?_)
          refine lv_aload_n hx hb dcX11_linking_74 rfl (lv_at hl 1 rfl) ?_
          refine vgX11_27 hx hb hT hown hK hM hr0 dcX11_linking_75 ?_
          refine vgX11_229 hx hb hT hown hK hM (cs_X11_3 hr0) dcX11_linking_78 ?_
          refine lv_iconst (v := 2) hx hb dcX11_linking_81 (by decide) ?_
          refine lv_iload hx hb dcX11_linking_82 (lv_at hl 6 rfl) ?_
          refine lv_imul hx hb dcX11_linking_84 ?_
          refine lv_iconst (v := 1) hx hb dcX11_linking_85 (by decide) ?_
          refine lv_iadd hx hb dcX11_linking_86 ?_
          refine uw_iald cX_ok hx hb hK hM (cr_X7_4 (cs_X11_3 hr0)) hq dcX11_linking_87 (fun v10 hq => ?_)
          refine lv_istore (lv' := [(7, .int v10), (6, .int v9), (0, .ref (u r0)), (1, .int x1), (2, .int x2), (3, .int x3), (4, .int x4), (5, .int x5)]) hx hb dcX11_linking_88 hl (by decide) rfl (fun ls hl => ?_)
          refine lv_iload hx hb dcX11_linking_90 (lv_at hl 1 rfl) ?_
          refine lv_iload_n hx hb dcX11_linking_92 rfl (lv_at hl 4 rfl) ?_
          refine lv_icmp_ne (tgt := 102) hx hb dcX11_linking_93 (by decide) (fun hc => ?_) (fun hc => ?_)
          · have hq := tw_if hq hc
            refine W.widen (k := 3) (n := 18) (Nat.le_of_ble_eq_true rfl) (Nat.le_of_ble_eq_true rfl) ?_
            exact ih_2 x1 x2 x3 x4 x5 v9 v10 r0 z H locs ls hr0 hM (lv_sub hl [2, 3, 4, 5, 6, 7, 1, 0] rfl) hq
          · have hq := tw_it hq hc
            refine lv_iload hx hb dcX11_linking_96 (lv_at hl 0 rfl) ?_
            refine lv_iload_n hx hb dcX11_linking_98 rfl (lv_at hl 5 rfl) ?_
            refine lv_icmp_eq (tgt := 114) hx hb dcX11_linking_99 (by decide) (fun hc => ?_) (fun hc => ?_)
            · have hq := tw_it hq hc
              refine W.widen (k := 3) (n := 18) (Nat.le_of_ble_eq_true rfl) (Nat.le_of_ble_eq_true rfl) ?_
              exact ih_3 x1 x2 x3 x4 x5 v9 v10 r0 z H locs ls hr0 hM (lv_sub hl [2, 3, 4, 5, 6, 7, 1, 0] rfl) hq
            · have hq := tw_if hq hc
              refine W.widen (k := 3) (n := 18) (Nat.le_of_ble_eq_true rfl) (Nat.le_of_ble_eq_true rfl) ?_
              exact ih_2 x1 x2 x3 x4 x5 v9 v10 r0 z H locs ls hr0 hM (lv_sub hl [2, 3, 4, 5, 6, 7, 1, 0] rfl) hq
      · intro x1 x2 x3 x4 x5 x6 x7 r0 z H locs ls hr0 hM hl hq
        have hq : cm_X11_linking_2 vl K (c_X11_linking vl K k) x1 x2 x3 x4 x5 x6 x7 r0 z = some (k9, r, z1) := hq
        unfold cm_X11_linking_2 at hq
        refine lv_iload hx hb dcX11_linking_102 (lv_at hl 6 rfl) ?_
        refine lv_iload_n hx hb dcX11_linking_104 rfl (lv_at hl 3 rfl) ?_
        refine lv_icmp_ne (tgt := 129) hx hb dcX11_linking_105 (by decide) (fun hc => ?_) (fun hc => ?_)
        · have hq := tw_if hq hc
          refine W.widen (k := 3) (n := 18) (Nat.le_of_ble_eq_true rfl) (Nat.le_of_ble_eq_true rfl) ?_
          exact ih_4 x1 x2 x3 x4 x5 x6 x7 r0 z H locs ls hr0 hM (lv_sub hl [0, 1, 2, 3, 4, 5, 6, 7] rfl) hq
        · have hq := tw_it hq hc
          refine lv_iload hx hb dcX11_linking_108 (lv_at hl 7 rfl) ?_
          refine lv_iload_n hx hb dcX11_linking_110 rfl (lv_at hl 2 rfl) ?_
          refine lv_icmp_ne (tgt := 129) hx hb dcX11_linking_111 (by decide) (fun hc => ?_) (fun hc => ?_)
          · have hq := tw_if hq hc
            refine W.widen (k := 3) (n := 18) (Nat.le_of_ble_eq_true rfl) (Nat.le_of_ble_eq_true rfl) ?_
            exact ih_4 x1 x2 x3 x4 x5 x6 x7 r0 z H locs ls hr0 hM (lv_sub hl [0, 1, 2, 3, 4, 5, 6, 7] rfl) hq
          · have hq := tw_it hq hc
            refine W.widen (k := 3) (n := 18) (Nat.le_of_ble_eq_true rfl) (Nat.le_of_ble_eq_true rfl) ?_
            exact ih_3 x1 x2 x3 x4 x5 x6 x7 r0 z H locs ls hr0 hM (lv_sub hl [0, 1, 2, 3, 4, 5, 6, 7] rfl) hq
      · intro x1 x2 x3 x4 x5 x6 x7 r0 z H locs ls hr0 hM hl hq
        have hq : cm_X11_linking_3 vl K (c_X11_linking vl K k) x1 x2 x3 x4 x5 x6 x7 r0 z = some (k9, r, z1) := hq
        unfold cm_X11_linking_3 at hq
        refine lv_iload hx hb dcX11_linking_114 (lv_at hl 4 rfl) ?_
        refine lv_aload_n hx hb dcX11_linking_116 rfl (lv_at hl 0 rfl) ?_
        refine vgX11_27 hx hb hT hown hK hM hr0 dcX11_linking_117 ?_
        refine vgX11_232 hx hb hT hown hK hM (cs_X11_3 hr0) dcX11_linking_120 ?_
        refine lv_iload hx hb dcX11_linking_123 (lv_at hl 5 rfl) ?_
        refine uw_iald cX_ok hx hb hK hM (cr_X7_2 (cs_X11_3 hr0)) hq dcX11_linking_125 (fun v11 hq => ?_)
        refine lv_iadd hx hb dcX11_linking_126 ?_
        refine lv_istore (lv' := [(4, .int (x4 + v11)), (0, .ref (u r0)), (1, .int x1), (2, .int x2), (3, .int x3), (5, .int x5), (6, .int x6), (7, .int x7)]) hx hb dcX11_linking_127 hl (by decide) rfl (fun ls hl => ?_)
        refine W.widen (k := 3) (n := 18) (Nat.le_of_ble_eq_true rfl) (Nat.le_of_ble_eq_true rfl) ?_
        exact ih_4 x1 x2 x3 (x4 + v11) x5 x6 x7 r0 z H locs ls hr0 hM (lv_sub hl [1, 2, 3, 4, 0, 5, 6, 7] rfl) hq
      · intro x1 x2 x3 x4 x5 x6 x7 r0 z H locs ls hr0 hM hl hq
        have hq : cm_X11_linking_4 vl K (c_X11_linking vl K k) x1 x2 x3 x4 x5 x6 x7 r0 z = some (k9, r, z1) := hq
        unfold cm_X11_linking_4 at hq
        refine lv_iinc (v := (x5 + 1)) (lv' := [(5, .int (x5 + 1)), (0, .ref (u r0)), (1, .int x1), (2, .int x2), (3, .int x3), (4, .int x4), (6, .int x6), (7, .int x7)]) hx hb dcX11_linking_129 hl (k := 5) rfl rfl (by decide) rfl (fun ls hl => ?_)
        refine lv_goto (tgt := 48) hx hb dcX11_linking_132 (by decide) ?_
        refine W.widen (k := 3) (n := 18) (Nat.le_of_ble_eq_true rfl) (Nat.le_of_ble_eq_true rfl) ?_
        exact ih_1 x1 x2 x3 x4 (x5 + 1) 0 0 r0 z H locs ls hr0 hM (lv_sub hl [1, 2, 3, 4, 5, 0] rfl) hq
  exact (key K).1 x1 x2 x3 0 0 0 0 r0 z s.heap [] ls hr0 hM (lv_sub hl [0, 1, 2, 3] rfl) hq
theorem dcX11_needCrossing_0 : decode cX11_needCrossing 0 = .ok (.iload_n 1, 1) := by decide +kernel
theorem dcX11_needCrossing_1 : decode cX11_needCrossing 1 = .ok (.ifCond .lt 14, 3) := by decide +kernel
theorem dcX11_needCrossing_4 : decode cX11_needCrossing 4 = .ok (.iload_n 1, 1) := by decide +kernel
theorem dcX11_needCrossing_5 : decode cX11_needCrossing 5 = .ok (.aload_n 0, 1) := by decide +kernel
theorem dcX11_needCrossing_6 : decode cX11_needCrossing 6 = .ok (.getfield 27, 3) := by decide +kernel
theorem dcX11_needCrossing_9 : decode cX11_needCrossing 9 = .ok (.getfield 198, 3) := by decide +kernel
theorem dcX11_needCrossing_12 : decode cX11_needCrossing 12 = .ok (.if_icmp .lt 13, 3) := by decide +kernel
theorem dcX11_needCrossing_15 : decode cX11_needCrossing 15 = .ok (.new 164, 3) := by decide +kernel
theorem dcX11_needCrossing_18 : decode cX11_needCrossing 18 = .ok (.dup, 1) := by decide +kernel
theorem dcX11_needCrossing_19 : decode cX11_needCrossing 19 = .ok (.ldc 242, 2) := by decide +kernel
theorem dcX11_needCrossing_21 : decode cX11_needCrossing 21 = .ok (.invokespecial 168, 3) := by decide +kernel
theorem dcX11_needCrossing_24 : decode cX11_needCrossing 24 = .ok (.athrow, 1) := by decide +kernel
theorem dcX11_needCrossing_25 : decode cX11_needCrossing 25 = .ok (.return_, 1) := by decide +kernel
def cm_X11_needCrossing_0 (vl : Nat → Nat) (K : Nat) (x1 : Int32) (r0 : Nat) (z : ow_MS) : Option (Nat × ow_MS) :=
 (if x1 < 0 then some (1, z)
 else rdF z ((r0 + 4000) + 8) fun v1 => (if x1 < v1 then some (0, z)
 else some (1, z)))
def ce_X11_needCrossing (vl : Nat → Nat) (K : Nat) (r0 : Nat) (x1 : Int32) (z : ow_MS) : Option (Nat × ow_MS) := cm_X11_needCrossing_0 vl K x1 r0 z
abbrev wc_X11_needCrossing : List Cond := .code yX11_needCrossing cX11_needCrossing 2 none :: wT
theorem cdd_X11_needCrossing : yX11_needCrossing.cls = RX11 ∧ yX11_needCrossing.cls ≠ "java/lang/invoke/MethodHandle" ∧ yX11_needCrossing.cls ≠ "java/lang/invoke/VarHandle" ∧ (parseMethodDescriptor yX11_needCrossing.desc).map (fun d => d.parameters.length) = some 1 := by decide +kernel
set_option maxHeartbeats 4000000 in
set_option maxRecDepth 100000 in
theorem kc_X11_needCrossing (l : Launch) (D : va_G) (q : Nat → ClassId) (vl u : Nat → Nat) (hU0 : tw_inj (cX vl) u) (hlt : l.stackTraces = false) (sa : Nat → Nat) (K : Nat) (r0 : Nat) (x1 : Int32) (hr0 : cw_X11 r0) (z z1 : ow_MS) (k9 : Nat) (hq : ce_X11_needCrossing vl K r0 x1 z = some (k9, z1)) : vx_Met l yX11_needCrossing wc_X11_needCrossing ({ frames := 6, cells := 1, slots := 6, locals := 90 } : Room) (va_Pc [.ref (u r0), .int x1] (cw_preT D q vl u sa z)) (va_Qv (fun (_ : Unit) => k9 = 0) (fun _ t => va_P D vwCl (uw (cX vl) q u z1) t.heap) (tw_A (cX vl) u)) (ct_X D q vl u k9 z1) 1 6 (tw_A (cX vl) u) := by
  refine vx_ofW (cc := cX11_needCrossing) (maxL := 2) (ret := none) (by decide) rfl ?_
  intro p e s m args below meth c s₁ B hml hex hv
  obtain ⟨rfl, hP, hK, hTh⟩ := hv
  have hx := B.exec
  have hb := B.bytes
  have hr := B.returns
  have hts := atoms_spec (ws := wc_X11_needCrossing) B.pre
  have hT : ∀ w ∈ wC, w.before ([.ref (u r0), .int x1] : List Value).toArray s = true := fun w h => hts w (List.mem_cons_of_mem _ (wT_C w h))
  have hown : s.vm.findClass RX11 = some m.cls := findClass_of_methodNamed B.named
  have hlocks := B.notSynchronized
  have hU : uw_inj (cX vl) u (tw_A (cX vl) u) := ⟨hU0, fun h hh => ⟨h, hh, rfl⟩⟩
  have hM : uw_M D vwCl (cX vl) q (tw_A (cX vl) u) s.heap u z s.heap [] := ⟨hP, va_S.rf⟩
  have hl := lv_entry ([.ref (u r0), .int x1]) (n := 2) (Nat.le_of_ble_eq_true rfl)
  rw [lg_entry_eq]
  generalize (lg_sl ([.ref (u r0), .int x1]) ++ List.replicate (2 - (lg_sl ([.ref (u r0), .int x1])).length) Slot.unset).toArray = ls at hl ⊢
  have hl : lv_has ls 2 [(0, .ref (u r0)), (1, .int x1)] := hl
  refine ow_named (fun QQ hQQ => ?_)
  generalize ([.ref (u r0), .int x1] : List Value).toArray = args at hts hT hQQ ⊢
  have hq : cm_X11_needCrossing_0 vl K x1 r0 z = some (k9, z1) := hq
  unfold cm_X11_needCrossing_0 at hq
  suffices key : ∀ (H : Heap) (locs : List Loc), uw_M D vwCl (cX vl) q (tw_A (cX vl) u) s.heap u z H locs → W p l e ({ frames := 6, cells := 1, slots := 6, locals := 90 } : Room) s m args below meth c H locs 0 0 QQ (F0 m 0 ls []) from key s.heap [] hM
  intro H locs hM
  refine lv_iload_n hx hb dcX11_needCrossing_0 rfl (lv_at hl 1 rfl) ?_
  refine lv_if_lt (tgt := 15) hx hb dcX11_needCrossing_1 (by decide) (fun hc => ?_) (fun hc => ?_)
  · have hq := tw_it hq hc
    obtain ⟨rfl, rfl⟩ := Prod.mk.inj (Option.some.inj hq)
    exact ct_throw (k := 1) (text := "no such crossing") (cls := "java/lang/IndexOutOfBoundsException") hx hb hlt hown hex hlocks (by rw [hml]; exact hl.1.symm) hTh (List.mem_of_getElem? (i := 12) rfl) rfl (by decide) (by decide +kernel) (hts _ (List.mem_cons_of_mem _ wT_k1)) (hts _ (List.mem_cons_of_mem _ wT_i1)) (fun w h => hts w (List.mem_cons_of_mem _ (wT_1 w h))) th9_1 tg9_1 hM dcX11_needCrossing_15 dcX11_needCrossing_18 dcX11_needCrossing_19 dcX11_needCrossing_21 dcX11_needCrossing_24 hQQ (Nat.le_of_ble_eq_true rfl) (Nat.le_of_ble_eq_true rfl) (Nat.le_of_ble_eq_true rfl) (Nat.le_of_ble_eq_true rfl) (Nat.le_of_ble_eq_true rfl) (Nat.le_of_ble_eq_true rfl)
  · have hq := tw_if hq hc
    refine lv_iload_n hx hb dcX11_needCrossing_4 rfl (lv_at hl 1 rfl) ?_
    refine lv_aload_n hx hb dcX11_needCrossing_5 rfl (lv_at hl 0 rfl) ?_
    refine vgX11_27 hx hb hT hown hK hM hr0 dcX11_needCrossing_6 ?_
    refine vgX11_198 hx hb hT hown hK hM (cs_X11_3 hr0) hq dcX11_needCrossing_9 (fun v1 hq => ?_)
    refine lv_icmp_lt (tgt := 25) hx hb dcX11_needCrossing_12 (by decide) (fun hc => ?_) (fun hc => ?_)
    · have hq := tw_it hq hc
      exact ct_vret hx hb hr hlocks hM hq hQQ (Nat.le_of_ble_eq_true rfl) (Nat.le_of_ble_eq_true rfl) dcX11_needCrossing_25
    · have hq := tw_if hq hc
      obtain ⟨rfl, rfl⟩ := Prod.mk.inj (Option.some.inj hq)
      exact ct_throw (k := 1) (text := "no such crossing") (cls := "java/lang/IndexOutOfBoundsException") hx hb hlt hown hex hlocks (by rw [hml]; exact hl.1.symm) hTh (List.mem_of_getElem? (i := 12) rfl) rfl (by decide) (by decide +kernel) (hts _ (List.mem_cons_of_mem _ wT_k1)) (hts _ (List.mem_cons_of_mem _ wT_i1)) (fun w h => hts w (List.mem_cons_of_mem _ (wT_1 w h))) th9_1 tg9_1 hM dcX11_needCrossing_15 dcX11_needCrossing_18 dcX11_needCrossing_19 dcX11_needCrossing_21 dcX11_needCrossing_24 hQQ (Nat.le_of_ble_eq_true rfl) (Nat.le_of_ble_eq_true rfl) (Nat.le_of_ble_eq_true rfl) (Nat.le_of_ble_eq_true rfl) (Nat.le_of_ble_eq_true rfl) (Nat.le_of_ble_eq_true rfl)
theorem dcX11_mirror_0 : decode cX11_mirror 0 = .ok (.aload_n 0, 1) := dw_at cX11_mirror_k0 (p := 0) rfl (by decide +kernel)
theorem dcX11_mirror_1 : decode cX11_mirror 1 = .ok (.iload_n 1, 1) := dw_at cX11_mirror_k0 (p := 1) rfl (by decide +kernel)
theorem dcX11_mirror_2 : decode cX11_mirror 2 = .ok (.invokevirtual 189, 3) := dw_at cX11_mirror_k0 (p := 2) rfl (by decide +kernel)
theorem dcX11_mirror_5 : decode cX11_mirror 5 = .ok (.aload_n 0, 1) := dw_at cX11_mirror_k0 (p := 5) rfl (by decide +kernel)
theorem dcX11_mirror_6 : decode cX11_mirror 6 = .ok (.invokevirtual 133, 3) := dw_at cX11_mirror_k0 (p := 6) rfl (by decide +kernel)
theorem dcX11_mirror_9 : decode cX11_mirror 9 = .ok (.istore_n 2, 1) := dw_at cX11_mirror_k0 (p := 9) rfl (by decide +kernel)
theorem dcX11_mirror_10 : decode cX11_mirror 10 = .ok (.aload_n 0, 1) := dw_at cX11_mirror_k0 (p := 10) rfl (by decide +kernel)
theorem dcX11_mirror_11 : decode cX11_mirror 11 = .ok (.getfield 27, 3) := dw_at cX11_mirror_k0 (p := 11) rfl (by decide +kernel)
theorem dcX11_mirror_14 : decode cX11_mirror 14 = .ok (.aload_n 0, 1) := dw_at cX11_mirror_k0 (p := 14) rfl (by decide +kernel)
theorem dcX11_mirror_15 : decode cX11_mirror 15 = .ok (.getfield 14, 3) := dw_at cX11_mirror_k0 (p := 15) rfl (by decide +kernel)
theorem dcX11_mirror_18 : decode cX11_mirror 18 = .ok (.iload_n 1, 1) := dw_at cX11_mirror_k0 (p := 18) rfl (by decide +kernel)
theorem dcX11_mirror_19 : decode cX11_mirror 19 = .ok (.invokevirtual 194, 3) := dw_at cX11_mirror_k0 (p := 19) rfl (by decide +kernel)
theorem dcX11_mirror_22 : decode cX11_mirror 22 = .ok (.iconst 0, 1) := dw_at cX11_mirror_k0 (p := 22) rfl (by decide +kernel)
theorem dcX11_mirror_23 : decode cX11_mirror 23 = .ok (.istore_n 3, 1) := dw_at cX11_mirror_k0 (p := 23) rfl (by decide +kernel)
theorem dcX11_mirror_24 : decode cX11_mirror 24 = .ok (.iload_n 3, 1) := dw_at cX11_mirror_k1 (p := 0) rfl (by decide +kernel)
theorem dcX11_mirror_25 : decode cX11_mirror 25 = .ok (.aload_n 0, 1) := dw_at cX11_mirror_k1 (p := 1) rfl (by decide +kernel)
theorem dcX11_mirror_26 : decode cX11_mirror 26 = .ok (.getfield 27, 3) := dw_at cX11_mirror_k1 (p := 2) rfl (by decide +kernel)
theorem dcX11_mirror_29 : decode cX11_mirror 29 = .ok (.getfield 198, 3) := dw_at cX11_mirror_k1 (p := 5) rfl (by decide +kernel)
theorem dcX11_mirror_32 : decode cX11_mirror 32 = .ok (.if_icmp .ge 17, 3) := dw_at cX11_mirror_k1 (p := 8) rfl (by decide +kernel)
theorem dcX11_mirror_35 : decode cX11_mirror 35 = .ok (.aload_n 0, 1) := dw_at cX11_mirror_k1 (p := 11) rfl (by decide +kernel)
theorem dcX11_mirror_36 : decode cX11_mirror 36 = .ok (.getfield 27, 3) := dw_at cX11_mirror_k1 (p := 12) rfl (by decide +kernel)
theorem dcX11_mirror_39 : decode cX11_mirror 39 = .ok (.iload_n 3, 1) := dw_at cX11_mirror_k1 (p := 15) rfl (by decide +kernel)
theorem dcX11_mirror_40 : decode cX11_mirror 40 = .ok (.invokevirtual 248, 3) := dw_at cX11_mirror_k1 (p := 16) rfl (by decide +kernel)
theorem dcX11_mirror_43 : decode cX11_mirror 43 = .ok (.iinc 3 1, 3) := dw_at cX11_mirror_k1 (p := 19) rfl (by decide +kernel)
theorem dcX11_mirror_46 : decode cX11_mirror 46 = .ok (.goto (-22), 3) := dw_at cX11_mirror_k1 (p := 22) rfl (by decide +kernel)
theorem dcX11_mirror_49 : decode cX11_mirror 49 = .ok (.aload_n 0, 1) := dw_at cX11_mirror_k1 (p := 25) rfl (by decide +kernel)
theorem dcX11_mirror_50 : decode cX11_mirror 50 = .ok (.iload_n 2, 1) := dw_at cX11_mirror_k1 (p := 26) rfl (by decide +kernel)
theorem dcX11_mirror_51 : decode cX11_mirror 51 = .ok (.invokevirtual 145, 3) := dw_at cX11_mirror_k1 (p := 27) rfl (by decide +kernel)
theorem dcX11_mirror_54 : decode cX11_mirror 54 = .ok (.ireturn, 1) := dw_at cX11_mirror_k1 (p := 30) rfl (by decide +kernel)
def cm_X11_mirror_0 (vl : Nat → Nat) (K : Nat) (go : Nat → Int32 → Int32 → Int32 → Nat → ow_MS → Option (Nat × Int32 × ow_MS)) (x1 : Int32) (x2 : Int32) (x3 : Int32) (r0 : Nat) (z : ow_MS) : Option (Nat × Int32 × ow_MS) :=
 tc0 (ce_X11_needDiagram vl K r0 x1 z) (fun k z => some (k, 0, z)) fun z1 => tc1 (ce_X11_freeDiagram vl K r0 z1) (fun k z => some (k, 0, z)) fun v5 z3 => cs0 (ce_X7_load vl K (r0 + 4000) (r0 + 1000) x1 z3) fun z6 => go 1 x1 v5 0 r0 z6
def cm_X11_mirror_1 (vl : Nat → Nat) (K : Nat) (go : Nat → Int32 → Int32 → Int32 → Nat → ow_MS → Option (Nat × Int32 × ow_MS)) (x1 : Int32) (x2 : Int32) (x3 : Int32) (r0 : Nat) (z : ow_MS) : Option (Nat × Int32 × ow_MS) :=
 rdF z ((r0 + 4000) + 8) fun v7 => (if v7 ≤ x3 then cs1 (ce_X11_keep vl K r0 x2 z) fun v9 z8 => some (0, v9, z8)
 else cs0 (ce_X7_flipCrossing vl K (r0 + 4000) x3 z) fun z10 => go 1 x1 x2 (x3 + 1) r0 z10)
def cb_X11_mirror (vl : Nat → Nat) (K : Nat) (go : Nat → Int32 → Int32 → Int32 → Nat → ow_MS → Option (Nat × Int32 × ow_MS)) (L : Nat) (x1 : Int32) (x2 : Int32) (x3 : Int32) (r0 : Nat) (z : ow_MS) : Option (Nat × Int32 × ow_MS) := match L with
  | 0 => cm_X11_mirror_0 vl K go x1 x2 x3 r0 z
  | 1 => cm_X11_mirror_1 vl K go x1 x2 x3 r0 z
  | _ => none
def c_X11_mirror (vl : Nat → Nat) (K : Nat) : Nat → Nat → Int32 → Int32 → Int32 → Nat → ow_MS → Option (Nat × Int32 × ow_MS)
  | 0 => fun _ _ _ _ _ _ => none
  | k + 1 => cb_X11_mirror vl K (c_X11_mirror vl K k)
def ce_X11_mirror (vl : Nat → Nat) (K : Nat) (r0 : Nat) (x1 : Int32) (z : ow_MS) : Option (Nat × Int32 × ow_MS) := c_X11_mirror vl K K 0 x1 0 0 r0 z
abbrev wc_X11_mirror : List Cond := .code yX11_mirror cX11_mirror 4 (some .int) :: wT
theorem cdd_X11_mirror : yX11_mirror.cls = RX11 ∧ yX11_mirror.cls ≠ "java/lang/invoke/MethodHandle" ∧ yX11_mirror.cls ≠ "java/lang/invoke/VarHandle" ∧ (parseMethodDescriptor yX11_mirror.desc).map (fun d => d.parameters.length) = some 1 := by decide +kernel
set_option maxHeartbeats 4000000 in
set_option maxRecDepth 100000 in
theorem kc_X11_mirror (l : Launch) (D : va_G) (q : Nat → ClassId) (vl u : Nat → Nat) (hU0 : tw_inj (cX vl) u) (hlt : l.stackTraces = false) (sa : Nat → Nat) (K : Nat) (r0 : Nat) (x1 : Int32) (hr0 : cw_X11 r0) (z z1 : ow_MS) (k9 : Nat) (r : Int32) (hq : ce_X11_mirror vl K r0 x1 z = some (k9, r, z1)) : vx_Met l yX11_mirror wc_X11_mirror ({ frames := 7, cells := 2, slots := 12, locals := 176 } : Room) (va_Pc [.ref (u r0), .int x1] (cw_preT D q vl u sa z)) (va_Qi (fun x (_ : Unit) => k9 = 0 ∧ x = r) (fun _ t => va_P D vwCl (uw (cX vl) q u z1) t.heap) (tw_A (cX vl) u)) (ct_X D q vl u k9 z1) 2 12 (tw_A (cX vl) u) := by
  refine vx_ofW (cc := cX11_mirror) (maxL := 4) (ret := (some .int)) (by decide) rfl ?_
  intro p e s m args below meth c s₁ B hml hex hv
  obtain ⟨rfl, hP, hK, hTh⟩ := hv
  have hx := B.exec
  have hb := B.bytes
  have hr := B.returns
  have hts := atoms_spec (ws := wc_X11_mirror) B.pre
  have hT : ∀ w ∈ wC, w.before ([.ref (u r0), .int x1] : List Value).toArray s = true := fun w h => hts w (List.mem_cons_of_mem _ (wT_C w h))
  have hown : s.vm.findClass RX11 = some m.cls := findClass_of_methodNamed B.named
  have hlocks := B.notSynchronized
  have hU : uw_inj (cX vl) u (tw_A (cX vl) u) := ⟨hU0, fun h hh => ⟨h, hh, rfl⟩⟩
  have hM : uw_M D vwCl (cX vl) q (tw_A (cX vl) u) s.heap u z s.heap [] := ⟨hP, va_S.rf⟩
  have hl := lv_entry ([.ref (u r0), .int x1]) (n := 4) (Nat.le_of_ble_eq_true rfl)
  rw [lg_entry_eq]
  generalize (lg_sl ([.ref (u r0), .int x1]) ++ List.replicate (4 - (lg_sl ([.ref (u r0), .int x1])).length) Slot.unset).toArray = ls at hl ⊢
  have hl : lv_has ls 4 [(0, .ref (u r0)), (1, .int x1)] := hl
  refine ow_named (fun QQ hQQ => ?_)
  generalize ([.ref (u r0), .int x1] : List Value).toArray = args at hts hT hQQ ⊢
  have key : ∀ k : Nat, (∀ (x1 : Int32) (x2 : Int32) (x3 : Int32) (r0 : Nat) (z : ow_MS) (H : Heap) (locs : List Loc) (ls : Array Slot), cw_X11 r0 → uw_M D vwCl (cX vl) q (tw_A (cX vl) u) s.heap u z H locs → lv_has ls 4 [(0, .ref (u r0)), (1, .int x1)] → c_X11_mirror vl K k 0 x1 x2 x3 r0 z = some (k9, r, z1) → W p l e ({ frames := 7, cells := 2, slots := 12, locals := 176 } : Room) s m args below meth c H locs 0 0 QQ (F0 m 0 ls [])) ∧ (∀ (x1 : Int32) (x2 : Int32) (x3 : Int32) (r0 : Nat) (z : ow_MS) (H : Heap) (locs : List Loc) (ls : Array Slot), cw_X11 r0 → uw_M D vwCl (cX vl) q (tw_A (cX vl) u) s.heap u z H locs → lv_has ls 4 [(0, .ref (u r0)), (1, .int x1), (2, .int x2), (3, .int x3)] → c_X11_mirror vl K k 1 x1 x2 x3 r0 z = some (k9, r, z1) → W p l e ({ frames := 7, cells := 2, slots := 12, locals := 176 } : Room) s m args below meth c H locs 2 12 QQ (F0 m 24 ls [])) := by
    intro k
    induction k with
    | zero => exact ⟨fun _ _ _ _ _ _ _ _ _ _ _ hq => cw_no hq, fun _ _ _ _ _ _ _ _ _ _ _ hq => cw_no hq⟩
    | succ k ih =>
      obtain ⟨ih_0, ih_1⟩ := ih
      refine ⟨?_, ?_⟩
      · intro x1 x2 x3 r0 z H locs ls hr0 hM hl hq
        have hq : cm_X11_mirror_0 vl K (c_X11_mirror vl K k) x1 x2 x3 r0 z = some (k9, r, z1) := hq
        unfold cm_X11_mirror_0 at hq
        refine lv_aload_n hx hb dcX11_mirror_0 rfl (lv_at hl 0 rfl) ?_
        refine lv_iload_n hx hb dcX11_mirror_1 rfl (lv_at hl 1 rfl) ?_
        obtain ⟨k2, z1, hcq, hq⟩ := ct_tc0 hq
        refine ct_calv hU hM (vx_runV (As := [.int x1]) (rest := []) ⟨hx, hb, hml, hown, hts⟩ (kc_X11_needDiagram l D q vl u hU.1 hlt sa K r0 x1 hr0 z z1 k2 hcq) (cwV 1 hts (tw_gV2 wT_good (fun _ h => h) (wT_C _ xq_818) (wT_C _ xq_819) (wT_C _ xq_820) (wT_C _ xq_773) (wT_C _ xq_807)) rfl rfl rfl cdd_X11_needDiagram ⟨(Nat.le_of_ble_eq_true rfl), (Nat.le_of_ble_eq_true rfl)⟩) (ct_preV hK hTh hM (co_X11 hr0) rfl) rfl rfl hl.1 rfl (lv_room (Nat.le_of_ble_eq_true rfl)) dcX11_mirror_2 ⟨(Nat.le_of_ble_eq_true rfl), (Nat.le_of_ble_eq_true rfl)⟩) (fun E ce q9 H locs hk hE hM hce hcv hcl => ?_) (fun H locs hk hM => ?_)
        · have hq := tw_if hq hk
          obtain ⟨rfl, h9⟩ := Prod.mk.inj (Option.some.inj hq)
          obtain ⟨rfl, rfl⟩ := Prod.mk.inj h9
          exact ct_out hex hlocks hk hE hM hce hcv hcl hQQ (Nat.le_of_ble_eq_true rfl) (Nat.le_of_ble_eq_true rfl)
        have hq := tw_it hq hk
        refine lv_aload_n hx hb dcX11_mirror_5 rfl (lv_at hl 0 rfl) ?_
        obtain ⟨k4, v5, z3, hcq, hq⟩ := ct_tc1 hq
        refine ct_cali hU hM (vx_runV (As := []) (rest := []) ⟨hx, hb, hml, hown, hts⟩ (kc_X11_freeDiagram l D q vl u hU.1 hlt sa K r0 hr0 z1 z3 k4 v5 hcq) (cwV 0 hts (tw_gV2 wT_good (fun _ h => h) (wT_C _ xq_770) (wT_C _ xq_771) (wT_C _ xq_772) (wT_C _ xq_773) (wT_C _ xq_774)) rfl rfl rfl cdd_X11_freeDiagram ⟨(Nat.le_of_ble_eq_true rfl), (Nat.le_of_ble_eq_true rfl)⟩) (ct_preV hK hTh hM (co_X11 hr0) rfl) rfl rfl hl.1 rfl (lv_room (Nat.le_of_ble_eq_true rfl)) dcX11_mirror_6 ⟨(Nat.le_of_ble_eq_true rfl), (Nat.le_of_ble_eq_true rfl)⟩) (fun E ce q9 H locs hk hE hM hce hcv hcl => ?_) (fun H locs hk hM => ?_)
        · have hq := tw_if hq hk
          obtain ⟨rfl, h9⟩ := Prod.mk.inj (Option.some.inj hq)
          obtain ⟨rfl, rfl⟩ := Prod.mk.inj h9
          exact ct_out hex hlocks hk hE hM hce hcv hcl hQQ (Nat.le_of_ble_eq_true rfl) (Nat.le_of_ble_eq_true rfl)
        have hq := tw_it hq hk
        refine lv_istore_n (lv' := [(2, .int v5), (0, .ref (u r0)), (1, .int x1)]) hx hb dcX11_mirror_9 rfl hl (by decide) rfl (fun ls hl => ?_)
        refine lv_aload_n hx hb dcX11_mirror_10 rfl (lv_at hl 1 rfl) ?_
        refine vgX11_27 hx hb hT hown hK hM hr0 dcX11_mirror_11 ?_
        refine lv_aload_n hx hb dcX11_mirror_14 rfl (lv_at hl 1 rfl) ?_
        refine vgX11_14 hx hb hT hown hK hM hr0 dcX11_mirror_15 ?_
        refine lv_iload_n hx hb dcX11_mirror_18 rfl (lv_at hl 2 rfl) ?_
        obtain ⟨z6, hcq, hq⟩ := tw_cl0 hq
        refine uw_calv hU hM (va_runV (As := [.ref (u (r0 + 1000)), .int x1]) (rest := []) ⟨hx, hb, hml, hown, hts⟩ (kc_X7_load l D q vl u hU.1 K (r0 + 4000) (r0 + 1000) x1 (cs_X11_3 hr0) (cs_X11_0 hr0) z3 z6 hcq) (cwV 2 hts (tw_gV2 wT_good wT_C (wT_C _ xq_821) (wT_C _ xq_468) (wT_C _ xq_469) (wT_C _ xq_54) (wT_C _ xq_470)) rfl rfl rfl cdd_X7_load ⟨(Nat.le_of_ble_eq_true rfl), (Nat.le_of_ble_eq_true rfl)⟩) (cw_preV hK hM (co_X7 (cs_X11_3 hr0)) rfl) rfl rfl hl.1 rfl (lv_room (Nat.le_of_ble_eq_true rfl)) dcX11_mirror_19 ⟨(Nat.le_of_ble_eq_true rfl), (Nat.le_of_ble_eq_true rfl)⟩) (fun H locs hM => ?_)
        refine lv_iconst (v := 0) hx hb dcX11_mirror_22 (by decide) ?_
        refine lv_istore_n (lv' := [(3, .int 0), (2, .int v5), (0, .ref (u r0)), (1, .int x1)]) hx hb dcX11_mirror_23 rfl hl (by decide) rfl (fun ls hl => ?_)
        refine W.widen (k := 2) (n := 12) (Nat.le_of_ble_eq_true rfl) (Nat.le_of_ble_eq_true rfl) ?_
        exact ih_1 x1 v5 0 r0 z6 H locs ls hr0 hM (lv_sub hl [2, 3, 1, 0] rfl) hq
      · intro x1 x2 x3 r0 z H locs ls hr0 hM hl hq
        have hq : cm_X11_mirror_1 vl K (c_X11_mirror vl K k) x1 x2 x3 r0 z = some (k9, r, z1) := hq
        unfold cm_X11_mirror_1 at hq
        refine lv_iload_n hx hb dcX11_mirror_24 rfl (lv_at hl 3 rfl) ?_
        refine lv_aload_n hx hb dcX11_mirror_25 rfl (lv_at hl 0 rfl) ?_
        refine vgX11_27 hx hb hT hown hK hM hr0 dcX11_mirror_26 ?_
        refine vgX11_198 hx hb hT hown hK hM (cs_X11_3 hr0) hq dcX11_mirror_29 (fun v7 hq => ?_)
        refine lv_icmp_ge (tgt := 49) hx hb dcX11_mirror_32 (by decide) (fun hc => ?_) (fun hc => ?_)
        · have hq := tw_it hq hc
          refine lv_aload_n hx hb dcX11_mirror_49 rfl (lv_at hl 0 rfl) ?_
          refine lv_iload_n hx hb dcX11_mirror_50 rfl (lv_at hl 2 rfl) ?_
          obtain ⟨v9, z8, hcq, hq⟩ := tw_cl1 hq
          refine uw_cali hU hM (va_runV (As := [.int x2]) (rest := []) ⟨hx, hb, hml, hown, hts⟩ (kc_X11_keep l D q vl u hU.1 K r0 x2 hr0 z z8 v9 hcq) (cwV 1 hts (tw_gV2 wT_good wT_C (wT_C _ xq_781) (wT_C _ xq_782) (wT_C _ xq_783) (wT_C _ xq_773) (wT_C _ xq_784)) rfl rfl rfl cdd_X11_keep ⟨(Nat.le_of_ble_eq_true rfl), (Nat.le_of_ble_eq_true rfl)⟩) (cw_preV hK hM (co_X11 hr0) rfl) rfl rfl hl.1 rfl (lv_room (Nat.le_of_ble_eq_true rfl)) dcX11_mirror_51 ⟨(Nat.le_of_ble_eq_true rfl), (Nat.le_of_ble_eq_true rfl)⟩) (fun H locs hM => ?_)
          exact ct_iret hx hb hr hlocks hM hq hQQ (Nat.le_of_ble_eq_true rfl) (Nat.le_of_ble_eq_true rfl) dcX11_mirror_54
        · have hq := tw_if hq hc
          refine lv_aload_n hx hb dcX11_mirror_35 rfl (lv_at hl 0 rfl) ?_
          refine vgX11_27 hx hb hT hown hK hM hr0 dcX11_mirror_36 ?_
          refine lv_iload_n hx hb dcX11_mirror_39 rfl (lv_at hl 3 rfl) ?_
          obtain ⟨z10, hcq, hq⟩ := tw_cl0 hq
          refine uw_calv hU hM (va_runV (As := [.int x3]) (rest := []) ⟨hx, hb, hml, hown, hts⟩ (kc_X7_flipCrossing l D q vl u hU.1 K (r0 + 4000) x3 (cs_X11_3 hr0) z z10 hcq) (cwV 1 hts (tw_gV2 wT_good wT_C (wT_C _ xq_841) (wT_C _ xq_625) (wT_C _ xq_626) (wT_C _ xq_54) (wT_C _ xq_576)) rfl rfl rfl cdd_X7_flipCrossing ⟨(Nat.le_of_ble_eq_true rfl), (Nat.le_of_ble_eq_true rfl)⟩) (cw_preV hK hM (co_X7 (cs_X11_3 hr0)) rfl) rfl rfl hl.1 rfl (lv_room (Nat.le_of_ble_eq_true rfl)) dcX11_mirror_40 ⟨(Nat.le_of_ble_eq_true rfl), (Nat.le_of_ble_eq_true rfl)⟩) (fun H locs hM => ?_)
          refine lv_iinc (v := (x3 + 1)) (lv' := [(3, .int (x3 + 1)), (0, .ref (u r0)), (1, .int x1), (2, .int x2)]) hx hb dcX11_mirror_43 hl (k := 3) rfl rfl (by decide) rfl (fun ls hl => ?_)
          refine lv_goto (tgt := 24) hx hb dcX11_mirror_46 (by decide) ?_
          refine W.widen (k := 2) (n := 12) (Nat.le_of_ble_eq_true rfl) (Nat.le_of_ble_eq_true rfl) ?_
          exact ih_1 x1 x2 (x3 + 1) r0 z10 H locs ls hr0 hM (lv_sub hl [1, 2, 3, 0] rfl) hq
  exact (key K).1 x1 0 0 r0 z s.heap [] ls hr0 hM (lv_sub hl [0, 1] rfl) hq
theorem dcX11_reverse_0 : decode cX11_reverse 0 = .ok (.aload_n 0, 1) := dw_at cX11_reverse_k0 (p := 0) rfl (by decide +kernel)
theorem dcX11_reverse_1 : decode cX11_reverse 1 = .ok (.iload_n 1, 1) := dw_at cX11_reverse_k0 (p := 1) rfl (by decide +kernel)
theorem dcX11_reverse_2 : decode cX11_reverse 2 = .ok (.invokevirtual 189, 3) := dw_at cX11_reverse_k0 (p := 2) rfl (by decide +kernel)
theorem dcX11_reverse_5 : decode cX11_reverse 5 = .ok (.aload_n 0, 1) := dw_at cX11_reverse_k0 (p := 5) rfl (by decide +kernel)
theorem dcX11_reverse_6 : decode cX11_reverse 6 = .ok (.getfield 27, 3) := dw_at cX11_reverse_k0 (p := 6) rfl (by decide +kernel)
theorem dcX11_reverse_9 : decode cX11_reverse 9 = .ok (.aload_n 0, 1) := dw_at cX11_reverse_k0 (p := 9) rfl (by decide +kernel)
theorem dcX11_reverse_10 : decode cX11_reverse 10 = .ok (.getfield 14, 3) := dw_at cX11_reverse_k0 (p := 10) rfl (by decide +kernel)
theorem dcX11_reverse_13 : decode cX11_reverse 13 = .ok (.iload_n 1, 1) := dw_at cX11_reverse_k0 (p := 13) rfl (by decide +kernel)
theorem dcX11_reverse_14 : decode cX11_reverse 14 = .ok (.invokevirtual 194, 3) := dw_at cX11_reverse_k0 (p := 14) rfl (by decide +kernel)
theorem dcX11_reverse_17 : decode cX11_reverse 17 = .ok (.iload_n 2, 1) := dw_at cX11_reverse_k0 (p := 17) rfl (by decide +kernel)
theorem dcX11_reverse_18 : decode cX11_reverse 18 = .ok (.iconst (-1), 1) := dw_at cX11_reverse_k0 (p := 18) rfl (by decide +kernel)
theorem dcX11_reverse_19 : decode cX11_reverse 19 = .ok (.if_icmp .eq 8, 3) := dw_at cX11_reverse_k0 (p := 19) rfl (by decide +kernel)
theorem dcX11_reverse_22 : decode cX11_reverse 22 = .ok (.aload_n 0, 1) := dw_at cX11_reverse_k0 (p := 22) rfl (by decide +kernel)
theorem dcX11_reverse_23 : decode cX11_reverse 23 = .ok (.iload_n 2, 1) := dw_at cX11_reverse_k0 (p := 23) rfl (by decide +kernel)
theorem dcX11_reverse_24 : decode cX11_reverse 24 = .ok (.invokevirtual 235, 3) := dw_at cX11_reverse_k1 (p := 0) rfl (by decide +kernel)
theorem dcX11_reverse_27 : decode cX11_reverse 27 = .ok (.aload_n 0, 1) := dw_at cX11_reverse_k1 (p := 3) rfl (by decide +kernel)
theorem dcX11_reverse_28 : decode cX11_reverse 28 = .ok (.invokevirtual 133, 3) := dw_at cX11_reverse_k1 (p := 4) rfl (by decide +kernel)
theorem dcX11_reverse_31 : decode cX11_reverse 31 = .ok (.istore_n 3, 1) := dw_at cX11_reverse_k1 (p := 7) rfl (by decide +kernel)
theorem dcX11_reverse_32 : decode cX11_reverse 32 = .ok (.aload_n 0, 1) := dw_at cX11_reverse_k1 (p := 8) rfl (by decide +kernel)
theorem dcX11_reverse_33 : decode cX11_reverse 33 = .ok (.getfield 27, 3) := dw_at cX11_reverse_k1 (p := 9) rfl (by decide +kernel)
theorem dcX11_reverse_36 : decode cX11_reverse 36 = .ok (.iload_n 2, 1) := dw_at cX11_reverse_k1 (p := 12) rfl (by decide +kernel)
theorem dcX11_reverse_37 : decode cX11_reverse 37 = .ok (.invokevirtual 251, 3) := dw_at cX11_reverse_k1 (p := 13) rfl (by decide +kernel)
theorem dcX11_reverse_40 : decode cX11_reverse 40 = .ok (.aload_n 0, 1) := dw_at cX11_reverse_k1 (p := 16) rfl (by decide +kernel)
theorem dcX11_reverse_41 : decode cX11_reverse 41 = .ok (.iload_n 3, 1) := dw_at cX11_reverse_k1 (p := 17) rfl (by decide +kernel)
theorem dcX11_reverse_42 : decode cX11_reverse 42 = .ok (.invokevirtual 145, 3) := dw_at cX11_reverse_k1 (p := 18) rfl (by decide +kernel)
theorem dcX11_reverse_45 : decode cX11_reverse 45 = .ok (.ireturn, 1) := dw_at cX11_reverse_k1 (p := 21) rfl (by decide +kernel)
def cm_X11_reverse_0 (vl : Nat → Nat) (K : Nat) (go : Nat → Int32 → Int32 → Nat → ow_MS → Option (Nat × Int32 × ow_MS)) (x1 : Int32) (x2 : Int32) (r0 : Nat) (z : ow_MS) : Option (Nat × Int32 × ow_MS) :=
 tc0 (ce_X11_needDiagram vl K r0 x1 z) (fun k z => some (k, 0, z)) fun z1 => cs0 (ce_X7_load vl K (r0 + 4000) (r0 + 1000) x1 z1) fun z3 => (if x2 = (-1) then go 1 x1 x2 r0 z3
 else tc0 (ce_X11_needComponent vl K r0 x2 z3) (fun k z => some (k, 0, z)) fun z4 => go 1 x1 x2 r0 z4)
def cm_X11_reverse_1 (vl : Nat → Nat) (K : Nat) (go : Nat → Int32 → Int32 → Nat → ow_MS → Option (Nat × Int32 × ow_MS)) (x1 : Int32) (x2 : Int32) (r0 : Nat) (z : ow_MS) : Option (Nat × Int32 × ow_MS) :=
 tc1 (ce_X11_freeDiagram vl K r0 z) (fun k z => some (k, 0, z)) fun v8 z6 => cs0 (ce_X7_turn vl K (r0 + 4000) x2 z6) fun z9 => cs1 (ce_X11_keep vl K r0 v8 z9) fun v11 z10 => some (0, v11, z10)
def cb_X11_reverse (vl : Nat → Nat) (K : Nat) (go : Nat → Int32 → Int32 → Nat → ow_MS → Option (Nat × Int32 × ow_MS)) (L : Nat) (x1 : Int32) (x2 : Int32) (r0 : Nat) (z : ow_MS) : Option (Nat × Int32 × ow_MS) := match L with
  | 0 => cm_X11_reverse_0 vl K go x1 x2 r0 z
  | 1 => cm_X11_reverse_1 vl K go x1 x2 r0 z
  | _ => none
def c_X11_reverse (vl : Nat → Nat) (K : Nat) : Nat → Nat → Int32 → Int32 → Nat → ow_MS → Option (Nat × Int32 × ow_MS)
  | 0 => fun _ _ _ _ _ => none
  | k + 1 => cb_X11_reverse vl K (c_X11_reverse vl K k)
def ce_X11_reverse (vl : Nat → Nat) (K : Nat) (r0 : Nat) (x1 : Int32) (x2 : Int32) (z : ow_MS) : Option (Nat × Int32 × ow_MS) := c_X11_reverse vl K K 0 x1 x2 r0 z
abbrev wc_X11_reverse : List Cond := .code yX11_reverse cX11_reverse 4 (some .int) :: wT
theorem cdd_X11_reverse : yX11_reverse.cls = RX11 ∧ yX11_reverse.cls ≠ "java/lang/invoke/MethodHandle" ∧ yX11_reverse.cls ≠ "java/lang/invoke/VarHandle" ∧ (parseMethodDescriptor yX11_reverse.desc).map (fun d => d.parameters.length) = some 2 := by decide +kernel
set_option maxHeartbeats 4000000 in
set_option maxRecDepth 100000 in
theorem kc_X11_reverse (l : Launch) (D : va_G) (q : Nat → ClassId) (vl u : Nat → Nat) (hU0 : tw_inj (cX vl) u) (hlt : l.stackTraces = false) (sa : Nat → Nat) (K : Nat) (r0 : Nat) (x1 : Int32) (x2 : Int32) (hr0 : cw_X11 r0) (z z1 : ow_MS) (k9 : Nat) (r : Int32) (hq : ce_X11_reverse vl K r0 x1 x2 z = some (k9, r, z1)) : vx_Met l yX11_reverse wc_X11_reverse ({ frames := 7, cells := 3, slots := 18, locals := 176 } : Room) (va_Pc [.ref (u r0), .int x1, .int x2] (cw_preT D q vl u sa z)) (va_Qi (fun x (_ : Unit) => k9 = 0 ∧ x = r) (fun _ t => va_P D vwCl (uw (cX vl) q u z1) t.heap) (tw_A (cX vl) u)) (ct_X D q vl u k9 z1) 3 18 (tw_A (cX vl) u) := by
  refine vx_ofW (cc := cX11_reverse) (maxL := 4) (ret := (some .int)) (by decide) rfl ?_
  intro p e s m args below meth c s₁ B hml hex hv
  obtain ⟨rfl, hP, hK, hTh⟩ := hv
  have hx := B.exec
  have hb := B.bytes
  have hr := B.returns
  have hts := atoms_spec (ws := wc_X11_reverse) B.pre
  have hT : ∀ w ∈ wC, w.before ([.ref (u r0), .int x1, .int x2] : List Value).toArray s = true := fun w h => hts w (List.mem_cons_of_mem _ (wT_C w h))
  have hown : s.vm.findClass RX11 = some m.cls := findClass_of_methodNamed B.named
  have hlocks := B.notSynchronized
  have hU : uw_inj (cX vl) u (tw_A (cX vl) u) := ⟨hU0, fun h hh => ⟨h, hh, rfl⟩⟩
  have hM : uw_M D vwCl (cX vl) q (tw_A (cX vl) u) s.heap u z s.heap [] := ⟨hP, va_S.rf⟩
  have hl := lv_entry ([.ref (u r0), .int x1, .int x2]) (n := 4) (Nat.le_of_ble_eq_true rfl)
  rw [lg_entry_eq]
  generalize (lg_sl ([.ref (u r0), .int x1, .int x2]) ++ List.replicate (4 - (lg_sl ([.ref (u r0), .int x1, .int x2])).length) Slot.unset).toArray = ls at hl ⊢
  have hl : lv_has ls 4 [(0, .ref (u r0)), (1, .int x1), (2, .int x2)] := hl
  refine ow_named (fun QQ hQQ => ?_)
  generalize ([.ref (u r0), .int x1, .int x2] : List Value).toArray = args at hts hT hQQ ⊢
  have key : ∀ k : Nat, (∀ (x1 : Int32) (x2 : Int32) (r0 : Nat) (z : ow_MS) (H : Heap) (locs : List Loc) (ls : Array Slot), cw_X11 r0 → uw_M D vwCl (cX vl) q (tw_A (cX vl) u) s.heap u z H locs → lv_has ls 4 [(0, .ref (u r0)), (1, .int x1), (2, .int x2)] → c_X11_reverse vl K k 0 x1 x2 r0 z = some (k9, r, z1) → W p l e ({ frames := 7, cells := 3, slots := 18, locals := 176 } : Room) s m args below meth c H locs 0 0 QQ (F0 m 0 ls [])) ∧ (∀ (x1 : Int32) (x2 : Int32) (r0 : Nat) (z : ow_MS) (H : Heap) (locs : List Loc) (ls : Array Slot), cw_X11 r0 → uw_M D vwCl (cX vl) q (tw_A (cX vl) u) s.heap u z H locs → lv_has ls 4 [(0, .ref (u r0)), (1, .int x1), (2, .int x2)] → c_X11_reverse vl K k 1 x1 x2 r0 z = some (k9, r, z1) → W p l e ({ frames := 7, cells := 3, slots := 18, locals := 176 } : Room) s m args below meth c H locs 2 12 QQ (F0 m 27 ls [])) := by
    intro k
    induction k with
    | zero => exact ⟨fun _ _ _ _ _ _ _ _ _ _ hq => cw_no hq, fun _ _ _ _ _ _ _ _ _ _ hq => cw_no hq⟩
    | succ k ih =>
      obtain ⟨ih_0, ih_1⟩ := ih
      refine ⟨?_, ?_⟩
      · intro x1 x2 r0 z H locs ls hr0 hM hl hq
        have hq : cm_X11_reverse_0 vl K (c_X11_reverse vl K k) x1 x2 r0 z = some (k9, r, z1) := hq
        unfold cm_X11_reverse_0 at hq
        refine lv_aload_n hx hb dcX11_reverse_0 rfl (lv_at hl 0 rfl) ?_
        refine lv_iload_n hx hb dcX11_reverse_1 rfl (lv_at hl 1 rfl) ?_
        obtain ⟨k2, z1, hcq, hq⟩ := ct_tc0 hq
        refine ct_calv hU hM (vx_runV (As := [.int x1]) (rest := []) ⟨hx, hb, hml, hown, hts⟩ (kc_X11_needDiagram l D q vl u hU.1 hlt sa K r0 x1 hr0 z z1 k2 hcq) (cwV 1 hts (tw_gV2 wT_good (fun _ h => h) (wT_C _ xq_818) (wT_C _ xq_819) (wT_C _ xq_820) (wT_C _ xq_773) (wT_C _ xq_807)) rfl rfl rfl cdd_X11_needDiagram ⟨(Nat.le_of_ble_eq_true rfl), (Nat.le_of_ble_eq_true rfl)⟩) (ct_preV hK hTh hM (co_X11 hr0) rfl) rfl rfl hl.1 rfl (lv_room (Nat.le_of_ble_eq_true rfl)) dcX11_reverse_2 ⟨(Nat.le_of_ble_eq_true rfl), (Nat.le_of_ble_eq_true rfl)⟩) (fun E ce q9 H locs hk hE hM hce hcv hcl => ?_) (fun H locs hk hM => ?_)
        · have hq := tw_if hq hk
          obtain ⟨rfl, h9⟩ := Prod.mk.inj (Option.some.inj hq)
          obtain ⟨rfl, rfl⟩ := Prod.mk.inj h9
          exact ct_out hex hlocks hk hE hM hce hcv hcl hQQ (Nat.le_of_ble_eq_true rfl) (Nat.le_of_ble_eq_true rfl)
        have hq := tw_it hq hk
        refine lv_aload_n hx hb dcX11_reverse_5 rfl (lv_at hl 0 rfl) ?_
        refine vgX11_27 hx hb hT hown hK hM hr0 dcX11_reverse_6 ?_
        refine lv_aload_n hx hb dcX11_reverse_9 rfl (lv_at hl 0 rfl) ?_
        refine vgX11_14 hx hb hT hown hK hM hr0 dcX11_reverse_10 ?_
        refine lv_iload_n hx hb dcX11_reverse_13 rfl (lv_at hl 1 rfl) ?_
        obtain ⟨z3, hcq, hq⟩ := tw_cl0 hq
        refine uw_calv hU hM (va_runV (As := [.ref (u (r0 + 1000)), .int x1]) (rest := []) ⟨hx, hb, hml, hown, hts⟩ (kc_X7_load l D q vl u hU.1 K (r0 + 4000) (r0 + 1000) x1 (cs_X11_3 hr0) (cs_X11_0 hr0) z1 z3 hcq) (cwV 2 hts (tw_gV2 wT_good wT_C (wT_C _ xq_821) (wT_C _ xq_468) (wT_C _ xq_469) (wT_C _ xq_54) (wT_C _ xq_470)) rfl rfl rfl cdd_X7_load ⟨(Nat.le_of_ble_eq_true rfl), (Nat.le_of_ble_eq_true rfl)⟩) (cw_preV hK hM (co_X7 (cs_X11_3 hr0)) rfl) rfl rfl hl.1 rfl (lv_room (Nat.le_of_ble_eq_true rfl)) dcX11_reverse_14 ⟨(Nat.le_of_ble_eq_true rfl), (Nat.le_of_ble_eq_true rfl)⟩) (fun H locs hM => ?_)
        refine lv_iload_n hx hb dcX11_reverse_17 rfl (lv_at hl 2 rfl) ?_
        refine lv_iconst (v := (-1)) hx hb dcX11_reverse_18 (by decide) ?_
        refine lv_icmp_eq (tgt := 27) hx hb dcX11_reverse_19 (by decide) (fun hc => ?_) (fun hc => ?_)
        · have hq := tw_it hq hc
          refine W.widen (k := 2) (n := 12) (Nat.le_of_ble_eq_true rfl) (Nat.le_of_ble_eq_true rfl) ?_
          exact ih_1 x1 x2 r0 z3 H locs ls hr0 hM (lv_sub hl [0, 1, 2] rfl) hq
        · have hq := tw_if hq hc
          refine lv_aload_n hx hb dcX11_reverse_22 rfl (lv_at hl 0 rfl) ?_
          refine lv_iload_n hx hb dcX11_reverse_23 rfl (lv_at hl 2 rfl) ?_
          obtain ⟨k5, z4, hcq, hq⟩ := ct_tc0 hq
          refine ct_calv hU hM (vx_runV (As := [.int x2]) (rest := []) ⟨hx, hb, hml, hown, hts⟩ (kc_X11_needComponent l D q vl u hU.1 hlt sa K r0 x2 hr0 z3 z4 k5 hcq) (cwV 1 hts (tw_gV2 wT_good (fun _ h => h) (wT_C _ xq_833) (wT_C _ xq_834) (wT_C _ xq_835) (wT_C _ xq_773) (wT_C _ xq_836)) rfl rfl rfl cdd_X11_needComponent ⟨(Nat.le_of_ble_eq_true rfl), (Nat.le_of_ble_eq_true rfl)⟩) (ct_preV hK hTh hM (co_X11 hr0) rfl) rfl rfl hl.1 rfl (lv_room (Nat.le_of_ble_eq_true rfl)) dcX11_reverse_24 ⟨(Nat.le_of_ble_eq_true rfl), (Nat.le_of_ble_eq_true rfl)⟩) (fun E ce q9 H locs hk hE hM hce hcv hcl => ?_) (fun H locs hk hM => ?_)
          · have hq := tw_if hq hk
            obtain ⟨rfl, h9⟩ := Prod.mk.inj (Option.some.inj hq)
            obtain ⟨rfl, rfl⟩ := Prod.mk.inj h9
            exact ct_out hex hlocks hk hE hM hce hcv hcl hQQ (Nat.le_of_ble_eq_true rfl) (Nat.le_of_ble_eq_true rfl)
          have hq := tw_it hq hk
          refine W.widen (k := 2) (n := 12) (Nat.le_of_ble_eq_true rfl) (Nat.le_of_ble_eq_true rfl) ?_
          exact ih_1 x1 x2 r0 z4 H locs ls hr0 hM (lv_sub hl [0, 1, 2] rfl) hq
      · intro x1 x2 r0 z H locs ls hr0 hM hl hq
        have hq : cm_X11_reverse_1 vl K (c_X11_reverse vl K k) x1 x2 r0 z = some (k9, r, z1) := hq
        unfold cm_X11_reverse_1 at hq
        refine lv_aload_n hx hb dcX11_reverse_27 rfl (lv_at hl 0 rfl) ?_
        obtain ⟨k7, v8, z6, hcq, hq⟩ := ct_tc1 hq
        refine ct_cali hU hM (vx_runV (As := []) (rest := []) ⟨hx, hb, hml, hown, hts⟩ (kc_X11_freeDiagram l D q vl u hU.1 hlt sa K r0 hr0 z z6 k7 v8 hcq) (cwV 0 hts (tw_gV2 wT_good (fun _ h => h) (wT_C _ xq_770) (wT_C _ xq_771) (wT_C _ xq_772) (wT_C _ xq_773) (wT_C _ xq_774)) rfl rfl rfl cdd_X11_freeDiagram ⟨(Nat.le_of_ble_eq_true rfl), (Nat.le_of_ble_eq_true rfl)⟩) (ct_preV hK hTh hM (co_X11 hr0) rfl) rfl rfl hl.1 rfl (lv_room (Nat.le_of_ble_eq_true rfl)) dcX11_reverse_28 ⟨(Nat.le_of_ble_eq_true rfl), (Nat.le_of_ble_eq_true rfl)⟩) (fun E ce q9 H locs hk hE hM hce hcv hcl => ?_) (fun H locs hk hM => ?_)
        · have hq := tw_if hq hk
          obtain ⟨rfl, h9⟩ := Prod.mk.inj (Option.some.inj hq)
          obtain ⟨rfl, rfl⟩ := Prod.mk.inj h9
          exact ct_out hex hlocks hk hE hM hce hcv hcl hQQ (Nat.le_of_ble_eq_true rfl) (Nat.le_of_ble_eq_true rfl)
        have hq := tw_it hq hk
        refine lv_istore_n (lv' := [(3, .int v8), (0, .ref (u r0)), (1, .int x1), (2, .int x2)]) hx hb dcX11_reverse_31 rfl hl (by decide) rfl (fun ls hl => ?_)
        refine lv_aload_n hx hb dcX11_reverse_32 rfl (lv_at hl 1 rfl) ?_
        refine vgX11_27 hx hb hT hown hK hM hr0 dcX11_reverse_33 ?_
        refine lv_iload_n hx hb dcX11_reverse_36 rfl (lv_at hl 3 rfl) ?_
        obtain ⟨z9, hcq, hq⟩ := tw_cl0 hq
        refine uw_calv hU hM (va_runV (As := [.int x2]) (rest := []) ⟨hx, hb, hml, hown, hts⟩ (kc_X7_turn l D q vl u hU.1 K (r0 + 4000) x2 (cs_X11_3 hr0) z6 z9 hcq) (cwV 1 hts (tw_gV2 wT_good wT_C (wT_C _ xq_843) (wT_C _ xq_844) (wT_C _ xq_845) (wT_C _ xq_54) (wT_C _ xq_577)) rfl rfl rfl cdd_X7_turn ⟨(Nat.le_of_ble_eq_true rfl), (Nat.le_of_ble_eq_true rfl)⟩) (cw_preV hK hM (co_X7 (cs_X11_3 hr0)) rfl) rfl rfl hl.1 rfl (lv_room (Nat.le_of_ble_eq_true rfl)) dcX11_reverse_37 ⟨(Nat.le_of_ble_eq_true rfl), (Nat.le_of_ble_eq_true rfl)⟩) (fun H locs hM => ?_)
        refine lv_aload_n hx hb dcX11_reverse_40 rfl (lv_at hl 1 rfl) ?_
        refine lv_iload_n hx hb dcX11_reverse_41 rfl (lv_at hl 0 rfl) ?_
        obtain ⟨v11, z10, hcq, hq⟩ := tw_cl1 hq
        refine uw_cali hU hM (va_runV (As := [.int v8]) (rest := []) ⟨hx, hb, hml, hown, hts⟩ (kc_X11_keep l D q vl u hU.1 K r0 v8 hr0 z9 z10 v11 hcq) (cwV 1 hts (tw_gV2 wT_good wT_C (wT_C _ xq_781) (wT_C _ xq_782) (wT_C _ xq_783) (wT_C _ xq_773) (wT_C _ xq_784)) rfl rfl rfl cdd_X11_keep ⟨(Nat.le_of_ble_eq_true rfl), (Nat.le_of_ble_eq_true rfl)⟩) (cw_preV hK hM (co_X11 hr0) rfl) rfl rfl hl.1 rfl (lv_room (Nat.le_of_ble_eq_true rfl)) dcX11_reverse_42 ⟨(Nat.le_of_ble_eq_true rfl), (Nat.le_of_ble_eq_true rfl)⟩) (fun H locs hM => ?_)
        exact ct_iret hx hb hr hlocks hM hq hQQ (Nat.le_of_ble_eq_true rfl) (Nat.le_of_ble_eq_true rfl) dcX11_reverse_45
  exact (key K).1 x1 x2 r0 z s.heap [] ls hr0 hM (lv_sub hl [0, 1, 2] rfl) hq
theorem dcX11_change_0 : decode cX11_change 0 = .ok (.aload_n 0, 1) := dw_at cX11_change_k0 (p := 0) rfl (by decide +kernel)
theorem dcX11_change_1 : decode cX11_change 1 = .ok (.iload_n 1, 1) := dw_at cX11_change_k0 (p := 1) rfl (by decide +kernel)
theorem dcX11_change_2 : decode cX11_change 2 = .ok (.invokevirtual 189, 3) := dw_at cX11_change_k0 (p := 2) rfl (by decide +kernel)
theorem dcX11_change_5 : decode cX11_change 5 = .ok (.aload_n 0, 1) := dw_at cX11_change_k0 (p := 5) rfl (by decide +kernel)
theorem dcX11_change_6 : decode cX11_change 6 = .ok (.getfield 27, 3) := dw_at cX11_change_k0 (p := 6) rfl (by decide +kernel)
theorem dcX11_change_9 : decode cX11_change 9 = .ok (.aload_n 0, 1) := dw_at cX11_change_k0 (p := 9) rfl (by decide +kernel)
theorem dcX11_change_10 : decode cX11_change 10 = .ok (.getfield 14, 3) := dw_at cX11_change_k0 (p := 10) rfl (by decide +kernel)
theorem dcX11_change_13 : decode cX11_change 13 = .ok (.iload_n 1, 1) := dw_at cX11_change_k0 (p := 13) rfl (by decide +kernel)
theorem dcX11_change_14 : decode cX11_change 14 = .ok (.invokevirtual 194, 3) := dw_at cX11_change_k0 (p := 14) rfl (by decide +kernel)
theorem dcX11_change_17 : decode cX11_change 17 = .ok (.aload_n 0, 1) := dw_at cX11_change_k0 (p := 17) rfl (by decide +kernel)
theorem dcX11_change_18 : decode cX11_change 18 = .ok (.iload_n 2, 1) := dw_at cX11_change_k0 (p := 18) rfl (by decide +kernel)
theorem dcX11_change_19 : decode cX11_change 19 = .ok (.invokevirtual 254, 3) := dw_at cX11_change_k0 (p := 19) rfl (by decide +kernel)
theorem dcX11_change_22 : decode cX11_change 22 = .ok (.aload_n 0, 1) := dw_at cX11_change_k0 (p := 22) rfl (by decide +kernel)
theorem dcX11_change_23 : decode cX11_change 23 = .ok (.invokevirtual 133, 3) := dw_at cX11_change_k0 (p := 23) rfl (by decide +kernel)
theorem dcX11_change_26 : decode cX11_change 26 = .ok (.istore_n 3, 1) := dw_at cX11_change_k1 (p := 0) rfl (by decide +kernel)
theorem dcX11_change_27 : decode cX11_change 27 = .ok (.aload_n 0, 1) := dw_at cX11_change_k1 (p := 1) rfl (by decide +kernel)
theorem dcX11_change_28 : decode cX11_change 28 = .ok (.getfield 27, 3) := dw_at cX11_change_k1 (p := 2) rfl (by decide +kernel)
theorem dcX11_change_31 : decode cX11_change 31 = .ok (.iload_n 2, 1) := dw_at cX11_change_k1 (p := 5) rfl (by decide +kernel)
theorem dcX11_change_32 : decode cX11_change 32 = .ok (.invokevirtual 248, 3) := dw_at cX11_change_k1 (p := 6) rfl (by decide +kernel)
theorem dcX11_change_35 : decode cX11_change 35 = .ok (.aload_n 0, 1) := dw_at cX11_change_k1 (p := 9) rfl (by decide +kernel)
theorem dcX11_change_36 : decode cX11_change 36 = .ok (.iload_n 3, 1) := dw_at cX11_change_k1 (p := 10) rfl (by decide +kernel)
theorem dcX11_change_37 : decode cX11_change 37 = .ok (.invokevirtual 145, 3) := dw_at cX11_change_k1 (p := 11) rfl (by decide +kernel)
theorem dcX11_change_40 : decode cX11_change 40 = .ok (.ireturn, 1) := dw_at cX11_change_k1 (p := 14) rfl (by decide +kernel)
def cm_X11_change_0 (vl : Nat → Nat) (K : Nat) (x1 : Int32) (x2 : Int32) (r0 : Nat) (z : ow_MS) : Option (Nat × Int32 × ow_MS) :=
 tc0 (ce_X11_needDiagram vl K r0 x1 z) (fun k z => some (k, 0, z)) fun z1 => cs0 (ce_X7_load vl K (r0 + 4000) (r0 + 1000) x1 z1) fun z3 => tc0 (ce_X11_needCrossing vl K r0 x2 z3) (fun k z => some (k, 0, z)) fun z4 => tc1 (ce_X11_freeDiagram vl K r0 z4) (fun k z => some (k, 0, z)) fun v8 z6 => cs0 (ce_X7_flipCrossing vl K (r0 + 4000) x2 z6) fun z9 => cs1 (ce_X11_keep vl K r0 v8 z9) fun v11 z10 => some (0, v11, z10)
def ce_X11_change (vl : Nat → Nat) (K : Nat) (r0 : Nat) (x1 : Int32) (x2 : Int32) (z : ow_MS) : Option (Nat × Int32 × ow_MS) := cm_X11_change_0 vl K x1 x2 r0 z
abbrev wc_X11_change : List Cond := .code yX11_change cX11_change 4 (some .int) :: wT
theorem cdd_X11_change : yX11_change.cls = RX11 ∧ yX11_change.cls ≠ "java/lang/invoke/MethodHandle" ∧ yX11_change.cls ≠ "java/lang/invoke/VarHandle" ∧ (parseMethodDescriptor yX11_change.desc).map (fun d => d.parameters.length) = some 2 := by decide +kernel
set_option maxHeartbeats 4000000 in
set_option maxRecDepth 100000 in
theorem kc_X11_change (l : Launch) (D : va_G) (q : Nat → ClassId) (vl u : Nat → Nat) (hU0 : tw_inj (cX vl) u) (hlt : l.stackTraces = false) (sa : Nat → Nat) (K : Nat) (r0 : Nat) (x1 : Int32) (x2 : Int32) (hr0 : cw_X11 r0) (z z1 : ow_MS) (k9 : Nat) (r : Int32) (hq : ce_X11_change vl K r0 x1 x2 z = some (k9, r, z1)) : vx_Met l yX11_change wc_X11_change ({ frames := 7, cells := 3, slots := 18, locals := 176 } : Room) (va_Pc [.ref (u r0), .int x1, .int x2] (cw_preT D q vl u sa z)) (va_Qi (fun x (_ : Unit) => k9 = 0 ∧ x = r) (fun _ t => va_P D vwCl (uw (cX vl) q u z1) t.heap) (tw_A (cX vl) u)) (ct_X D q vl u k9 z1) 3 18 (tw_A (cX vl) u) := by
  refine vx_ofW (cc := cX11_change) (maxL := 4) (ret := (some .int)) (by decide) rfl ?_
  intro p e s m args below meth c s₁ B hml hex hv
  obtain ⟨rfl, hP, hK, hTh⟩ := hv
  have hx := B.exec
  have hb := B.bytes
  have hr := B.returns
  have hts := atoms_spec (ws := wc_X11_change) B.pre
  have hT : ∀ w ∈ wC, w.before ([.ref (u r0), .int x1, .int x2] : List Value).toArray s = true := fun w h => hts w (List.mem_cons_of_mem _ (wT_C w h))
  have hown : s.vm.findClass RX11 = some m.cls := findClass_of_methodNamed B.named
  have hlocks := B.notSynchronized
  have hU : uw_inj (cX vl) u (tw_A (cX vl) u) := ⟨hU0, fun h hh => ⟨h, hh, rfl⟩⟩
  have hM : uw_M D vwCl (cX vl) q (tw_A (cX vl) u) s.heap u z s.heap [] := ⟨hP, va_S.rf⟩
  have hl := lv_entry ([.ref (u r0), .int x1, .int x2]) (n := 4) (Nat.le_of_ble_eq_true rfl)
  rw [lg_entry_eq]
  generalize (lg_sl ([.ref (u r0), .int x1, .int x2]) ++ List.replicate (4 - (lg_sl ([.ref (u r0), .int x1, .int x2])).length) Slot.unset).toArray = ls at hl ⊢
  have hl : lv_has ls 4 [(0, .ref (u r0)), (1, .int x1), (2, .int x2)] := hl
  refine ow_named (fun QQ hQQ => ?_)
  generalize ([.ref (u r0), .int x1, .int x2] : List Value).toArray = args at hts hT hQQ ⊢
  have hq : cm_X11_change_0 vl K x1 x2 r0 z = some (k9, r, z1) := hq
  unfold cm_X11_change_0 at hq
  suffices key : ∀ (H : Heap) (locs : List Loc), uw_M D vwCl (cX vl) q (tw_A (cX vl) u) s.heap u z H locs → W p l e ({ frames := 7, cells := 3, slots := 18, locals := 176 } : Room) s m args below meth c H locs 0 0 QQ (F0 m 0 ls []) from key s.heap [] hM
  intro H locs hM
  refine lv_aload_n hx hb dcX11_change_0 rfl (lv_at hl 0 rfl) ?_
  refine lv_iload_n hx hb dcX11_change_1 rfl (lv_at hl 1 rfl) ?_
  obtain ⟨k2, z1, hcq, hq⟩ := ct_tc0 hq
  refine ct_calv hU hM (vx_runV (As := [.int x1]) (rest := []) ⟨hx, hb, hml, hown, hts⟩ (kc_X11_needDiagram l D q vl u hU.1 hlt sa K r0 x1 hr0 z z1 k2 hcq) (cwV 1 hts (tw_gV2 wT_good (fun _ h => h) (wT_C _ xq_818) (wT_C _ xq_819) (wT_C _ xq_820) (wT_C _ xq_773) (wT_C _ xq_807)) rfl rfl rfl cdd_X11_needDiagram ⟨(Nat.le_of_ble_eq_true rfl), (Nat.le_of_ble_eq_true rfl)⟩) (ct_preV hK hTh hM (co_X11 hr0) rfl) rfl rfl hl.1 rfl (lv_room (Nat.le_of_ble_eq_true rfl)) dcX11_change_2 ⟨(Nat.le_of_ble_eq_true rfl), (Nat.le_of_ble_eq_true rfl)⟩) (fun E ce q9 H locs hk hE hM hce hcv hcl => ?_) (fun H locs hk hM => ?_)
  · have hq := tw_if hq hk
    obtain ⟨rfl, h9⟩ := Prod.mk.inj (Option.some.inj hq)
    obtain ⟨rfl, rfl⟩ := Prod.mk.inj h9
    exact ct_out hex hlocks hk hE hM hce hcv hcl hQQ (Nat.le_of_ble_eq_true rfl) (Nat.le_of_ble_eq_true rfl)
  have hq := tw_it hq hk
  refine lv_aload_n hx hb dcX11_change_5 rfl (lv_at hl 0 rfl) ?_
  refine vgX11_27 hx hb hT hown hK hM hr0 dcX11_change_6 ?_
  refine lv_aload_n hx hb dcX11_change_9 rfl (lv_at hl 0 rfl) ?_
  refine vgX11_14 hx hb hT hown hK hM hr0 dcX11_change_10 ?_
  refine lv_iload_n hx hb dcX11_change_13 rfl (lv_at hl 1 rfl) ?_
  obtain ⟨z3, hcq, hq⟩ := tw_cl0 hq
  refine uw_calv hU hM (va_runV (As := [.ref (u (r0 + 1000)), .int x1]) (rest := []) ⟨hx, hb, hml, hown, hts⟩ (kc_X7_load l D q vl u hU.1 K (r0 + 4000) (r0 + 1000) x1 (cs_X11_3 hr0) (cs_X11_0 hr0) z1 z3 hcq) (cwV 2 hts (tw_gV2 wT_good wT_C (wT_C _ xq_821) (wT_C _ xq_468) (wT_C _ xq_469) (wT_C _ xq_54) (wT_C _ xq_470)) rfl rfl rfl cdd_X7_load ⟨(Nat.le_of_ble_eq_true rfl), (Nat.le_of_ble_eq_true rfl)⟩) (cw_preV hK hM (co_X7 (cs_X11_3 hr0)) rfl) rfl rfl hl.1 rfl (lv_room (Nat.le_of_ble_eq_true rfl)) dcX11_change_14 ⟨(Nat.le_of_ble_eq_true rfl), (Nat.le_of_ble_eq_true rfl)⟩) (fun H locs hM => ?_)
  refine lv_aload_n hx hb dcX11_change_17 rfl (lv_at hl 0 rfl) ?_
  refine lv_iload_n hx hb dcX11_change_18 rfl (lv_at hl 2 rfl) ?_
  obtain ⟨k5, z4, hcq, hq⟩ := ct_tc0 hq
  refine ct_calv hU hM (vx_runV (As := [.int x2]) (rest := []) ⟨hx, hb, hml, hown, hts⟩ (kc_X11_needCrossing l D q vl u hU.1 hlt sa K r0 x2 hr0 z3 z4 k5 hcq) (cwV 1 hts (tw_gV2 wT_good (fun _ h => h) (wT_C _ xq_847) (wT_C _ xq_848) (wT_C _ xq_849) (wT_C _ xq_773) (wT_C _ xq_838)) rfl rfl rfl cdd_X11_needCrossing ⟨(Nat.le_of_ble_eq_true rfl), (Nat.le_of_ble_eq_true rfl)⟩) (ct_preV hK hTh hM (co_X11 hr0) rfl) rfl rfl hl.1 rfl (lv_room (Nat.le_of_ble_eq_true rfl)) dcX11_change_19 ⟨(Nat.le_of_ble_eq_true rfl), (Nat.le_of_ble_eq_true rfl)⟩) (fun E ce q9 H locs hk hE hM hce hcv hcl => ?_) (fun H locs hk hM => ?_)
  · have hq := tw_if hq hk
    obtain ⟨rfl, h9⟩ := Prod.mk.inj (Option.some.inj hq)
    obtain ⟨rfl, rfl⟩ := Prod.mk.inj h9
    exact ct_out hex hlocks hk hE hM hce hcv hcl hQQ (Nat.le_of_ble_eq_true rfl) (Nat.le_of_ble_eq_true rfl)
  have hq := tw_it hq hk
  refine lv_aload_n hx hb dcX11_change_22 rfl (lv_at hl 0 rfl) ?_
  obtain ⟨k7, v8, z6, hcq, hq⟩ := ct_tc1 hq
  refine ct_cali hU hM (vx_runV (As := []) (rest := []) ⟨hx, hb, hml, hown, hts⟩ (kc_X11_freeDiagram l D q vl u hU.1 hlt sa K r0 hr0 z4 z6 k7 v8 hcq) (cwV 0 hts (tw_gV2 wT_good (fun _ h => h) (wT_C _ xq_770) (wT_C _ xq_771) (wT_C _ xq_772) (wT_C _ xq_773) (wT_C _ xq_774)) rfl rfl rfl cdd_X11_freeDiagram ⟨(Nat.le_of_ble_eq_true rfl), (Nat.le_of_ble_eq_true rfl)⟩) (ct_preV hK hTh hM (co_X11 hr0) rfl) rfl rfl hl.1 rfl (lv_room (Nat.le_of_ble_eq_true rfl)) dcX11_change_23 ⟨(Nat.le_of_ble_eq_true rfl), (Nat.le_of_ble_eq_true rfl)⟩) (fun E ce q9 H locs hk hE hM hce hcv hcl => ?_) (fun H locs hk hM => ?_)
  · have hq := tw_if hq hk
    obtain ⟨rfl, h9⟩ := Prod.mk.inj (Option.some.inj hq)
    obtain ⟨rfl, rfl⟩ := Prod.mk.inj h9
    exact ct_out hex hlocks hk hE hM hce hcv hcl hQQ (Nat.le_of_ble_eq_true rfl) (Nat.le_of_ble_eq_true rfl)
  have hq := tw_it hq hk
  refine lv_istore_n (lv' := [(3, .int v8), (0, .ref (u r0)), (1, .int x1), (2, .int x2)]) hx hb dcX11_change_26 rfl hl (by decide) rfl (fun ls hl => ?_)
  refine lv_aload_n hx hb dcX11_change_27 rfl (lv_at hl 1 rfl) ?_
  refine vgX11_27 hx hb hT hown hK hM hr0 dcX11_change_28 ?_
  refine lv_iload_n hx hb dcX11_change_31 rfl (lv_at hl 3 rfl) ?_
  obtain ⟨z9, hcq, hq⟩ := tw_cl0 hq
  refine uw_calv hU hM (va_runV (As := [.int x2]) (rest := []) ⟨hx, hb, hml, hown, hts⟩ (kc_X7_flipCrossing l D q vl u hU.1 K (r0 + 4000) x2 (cs_X11_3 hr0) z6 z9 hcq) (cwV 1 hts (tw_gV2 wT_good wT_C (wT_C _ xq_841) (wT_C _ xq_625) (wT_C _ xq_626) (wT_C _ xq_54) (wT_C _ xq_576)) rfl rfl rfl cdd_X7_flipCrossing ⟨(Nat.le_of_ble_eq_true rfl), (Nat.le_of_ble_eq_true rfl)⟩) (cw_preV hK hM (co_X7 (cs_X11_3 hr0)) rfl) rfl rfl hl.1 rfl (lv_room (Nat.le_of_ble_eq_true rfl)) dcX11_change_32 ⟨(Nat.le_of_ble_eq_true rfl), (Nat.le_of_ble_eq_true rfl)⟩) (fun H locs hM => ?_)
  refine lv_aload_n hx hb dcX11_change_35 rfl (lv_at hl 1 rfl) ?_
  refine lv_iload_n hx hb dcX11_change_36 rfl (lv_at hl 0 rfl) ?_
  obtain ⟨v11, z10, hcq, hq⟩ := tw_cl1 hq
  refine uw_cali hU hM (va_runV (As := [.int v8]) (rest := []) ⟨hx, hb, hml, hown, hts⟩ (kc_X11_keep l D q vl u hU.1 K r0 v8 hr0 z9 z10 v11 hcq) (cwV 1 hts (tw_gV2 wT_good wT_C (wT_C _ xq_781) (wT_C _ xq_782) (wT_C _ xq_783) (wT_C _ xq_773) (wT_C _ xq_784)) rfl rfl rfl cdd_X11_keep ⟨(Nat.le_of_ble_eq_true rfl), (Nat.le_of_ble_eq_true rfl)⟩) (cw_preV hK hM (co_X11 hr0) rfl) rfl rfl hl.1 rfl (lv_room (Nat.le_of_ble_eq_true rfl)) dcX11_change_37 ⟨(Nat.le_of_ble_eq_true rfl), (Nat.le_of_ble_eq_true rfl)⟩) (fun H locs hM => ?_)
  exact ct_iret hx hb hr hlocks hM hq hQQ (Nat.le_of_ble_eq_true rfl) (Nat.le_of_ble_eq_true rfl) dcX11_change_40
theorem dcX11_smooth_0 : decode cX11_smooth 0 = .ok (.aload_n 0, 1) := dw_at cX11_smooth_k0 (p := 0) rfl (by decide +kernel)
theorem dcX11_smooth_1 : decode cX11_smooth 1 = .ok (.iload_n 1, 1) := dw_at cX11_smooth_k0 (p := 1) rfl (by decide +kernel)
theorem dcX11_smooth_2 : decode cX11_smooth 2 = .ok (.invokevirtual 189, 3) := dw_at cX11_smooth_k0 (p := 2) rfl (by decide +kernel)
theorem dcX11_smooth_5 : decode cX11_smooth 5 = .ok (.aload_n 0, 1) := dw_at cX11_smooth_k0 (p := 5) rfl (by decide +kernel)
theorem dcX11_smooth_6 : decode cX11_smooth 6 = .ok (.getfield 27, 3) := dw_at cX11_smooth_k0 (p := 6) rfl (by decide +kernel)
theorem dcX11_smooth_9 : decode cX11_smooth 9 = .ok (.aload_n 0, 1) := dw_at cX11_smooth_k0 (p := 9) rfl (by decide +kernel)
theorem dcX11_smooth_10 : decode cX11_smooth 10 = .ok (.getfield 14, 3) := dw_at cX11_smooth_k0 (p := 10) rfl (by decide +kernel)
theorem dcX11_smooth_13 : decode cX11_smooth 13 = .ok (.iload_n 1, 1) := dw_at cX11_smooth_k0 (p := 13) rfl (by decide +kernel)
theorem dcX11_smooth_14 : decode cX11_smooth 14 = .ok (.invokevirtual 194, 3) := dw_at cX11_smooth_k0 (p := 14) rfl (by decide +kernel)
theorem dcX11_smooth_17 : decode cX11_smooth 17 = .ok (.aload_n 0, 1) := dw_at cX11_smooth_k0 (p := 17) rfl (by decide +kernel)
theorem dcX11_smooth_18 : decode cX11_smooth 18 = .ok (.iload_n 2, 1) := dw_at cX11_smooth_k0 (p := 18) rfl (by decide +kernel)
theorem dcX11_smooth_19 : decode cX11_smooth 19 = .ok (.invokevirtual 254, 3) := dw_at cX11_smooth_k0 (p := 19) rfl (by decide +kernel)
theorem dcX11_smooth_22 : decode cX11_smooth 22 = .ok (.aload_n 0, 1) := dw_at cX11_smooth_k0 (p := 22) rfl (by decide +kernel)
theorem dcX11_smooth_23 : decode cX11_smooth 23 = .ok (.getfield 27, 3) := dw_at cX11_smooth_k0 (p := 23) rfl (by decide +kernel)
theorem dcX11_smooth_26 : decode cX11_smooth 26 = .ok (.iload_n 2, 1) := dw_at cX11_smooth_k1 (p := 0) rfl (by decide +kernel)
theorem dcX11_smooth_27 : decode cX11_smooth 27 = .ok (.invokevirtual 257, 3) := dw_at cX11_smooth_k1 (p := 1) rfl (by decide +kernel)
theorem dcX11_smooth_30 : decode cX11_smooth 30 = .ok (.aload_n 0, 1) := dw_at cX11_smooth_k1 (p := 4) rfl (by decide +kernel)
theorem dcX11_smooth_31 : decode cX11_smooth 31 = .ok (.getfield 27, 3) := dw_at cX11_smooth_k1 (p := 5) rfl (by decide +kernel)
theorem dcX11_smooth_34 : decode cX11_smooth 34 = .ok (.invokevirtual 260, 3) := dw_at cX11_smooth_k1 (p := 8) rfl (by decide +kernel)
theorem dcX11_smooth_37 : decode cX11_smooth 37 = .ok (.aload_n 0, 1) := dw_at cX11_smooth_k1 (p := 11) rfl (by decide +kernel)
theorem dcX11_smooth_38 : decode cX11_smooth 38 = .ok (.getfield 27, 3) := dw_at cX11_smooth_k1 (p := 12) rfl (by decide +kernel)
theorem dcX11_smooth_41 : decode cX11_smooth 41 = .ok (.getfield 201, 3) := dw_at cX11_smooth_k1 (p := 15) rfl (by decide +kernel)
theorem dcX11_smooth_44 : decode cX11_smooth 44 = .ok (.aload_n 0, 1) := dw_at cX11_smooth_k1 (p := 18) rfl (by decide +kernel)
theorem dcX11_smooth_45 : decode cX11_smooth 45 = .ok (.getfield 27, 3) := dw_at cX11_smooth_k1 (p := 19) rfl (by decide +kernel)
theorem dcX11_smooth_48 : decode cX11_smooth 48 = .ok (.getfield 204, 3) := dw_at cX11_smooth_k1 (p := 22) rfl (by decide +kernel)
theorem dcX11_smooth_51 : decode cX11_smooth 51 = .ok (.iadd, 1) := dw_at cX11_smooth_k2 (p := 0) rfl (by decide +kernel)
theorem dcX11_smooth_52 : decode cX11_smooth 52 = .ok (.bipush 6, 2) := dw_at cX11_smooth_k2 (p := 1) rfl (by decide +kernel)
theorem dcX11_smooth_54 : decode cX11_smooth 54 = .ok (.if_icmp .le 14, 3) := dw_at cX11_smooth_k2 (p := 3) rfl (by decide +kernel)
theorem dcX11_smooth_57 : decode cX11_smooth 57 = .ok (.new 263, 3) := dw_at cX11_smooth_k2 (p := 6) rfl (by decide +kernel)
theorem dcX11_smooth_60 : decode cX11_smooth 60 = .ok (.dup, 1) := dw_at cX11_smooth_k2 (p := 9) rfl (by decide +kernel)
theorem dcX11_smooth_61 : decode cX11_smooth 61 = .ok (.ldc_w 265, 3) := dw_at cX11_smooth_k2 (p := 10) rfl (by decide +kernel)
theorem dcX11_smooth_64 : decode cX11_smooth 64 = .ok (.invokespecial 267, 3) := dw_at cX11_smooth_k2 (p := 13) rfl (by decide +kernel)
theorem dcX11_smooth_67 : decode cX11_smooth 67 = .ok (.athrow, 1) := dw_at cX11_smooth_k2 (p := 16) rfl (by decide +kernel)
theorem dcX11_smooth_68 : decode cX11_smooth 68 = .ok (.aload_n 0, 1) := dw_at cX11_smooth_k2 (p := 17) rfl (by decide +kernel)
theorem dcX11_smooth_69 : decode cX11_smooth 69 = .ok (.aload_n 0, 1) := dw_at cX11_smooth_k2 (p := 18) rfl (by decide +kernel)
theorem dcX11_smooth_70 : decode cX11_smooth 70 = .ok (.invokevirtual 133, 3) := dw_at cX11_smooth_k2 (p := 19) rfl (by decide +kernel)
theorem dcX11_smooth_73 : decode cX11_smooth 73 = .ok (.invokevirtual 145, 3) := dw_at cX11_smooth_k2 (p := 22) rfl (by decide +kernel)
theorem dcX11_smooth_76 : decode cX11_smooth 76 = .ok (.ireturn, 1) := dw_at cX11_smooth_k2 (p := 25) rfl (by decide +kernel)
def cm_X11_smooth_0 (vl : Nat → Nat) (K : Nat) (x1 : Int32) (x2 : Int32) (r0 : Nat) (z : ow_MS) : Option (Nat × Int32 × ow_MS) :=
 tc0 (ce_X11_needDiagram vl K r0 x1 z) (fun k z => some (k, 0, z)) fun z1 => cs0 (ce_X7_load vl K (r0 + 4000) (r0 + 1000) x1 z1) fun z3 => tc0 (ce_X11_needCrossing vl K r0 x2 z3) (fun k z => some (k, 0, z)) fun z4 => cs0 (ce_X7_smoothCrossing vl K (r0 + 4000) x2 z4) fun z6 => cs0 (ce_X7_markRings vl K (r0 + 4000) z6) fun z7 => rdF z7 ((r0 + 4000) + 10) fun v8 => rdF z7 ((r0 + 4000) + 9) fun v9 => (if (v8 + v9) ≤ 6 then tc1 (ce_X11_freeDiagram vl K r0 z7) (fun k z => some (k, 0, z)) fun v12 z10 => cs1 (ce_X11_keep vl K r0 v12 z10) fun v14 z13 => some (0, v14, z13)
 else some (4, 0, z7))
def ce_X11_smooth (vl : Nat → Nat) (K : Nat) (r0 : Nat) (x1 : Int32) (x2 : Int32) (z : ow_MS) : Option (Nat × Int32 × ow_MS) := cm_X11_smooth_0 vl K x1 x2 r0 z
abbrev wc_X11_smooth : List Cond := .code yX11_smooth cX11_smooth 3 (some .int) :: wT
theorem cdd_X11_smooth : yX11_smooth.cls = RX11 ∧ yX11_smooth.cls ≠ "java/lang/invoke/MethodHandle" ∧ yX11_smooth.cls ≠ "java/lang/invoke/VarHandle" ∧ (parseMethodDescriptor yX11_smooth.desc).map (fun d => d.parameters.length) = some 2 := by decide +kernel
set_option maxHeartbeats 4000000 in
set_option maxRecDepth 100000 in
theorem kc_X11_smooth (l : Launch) (D : va_G) (q : Nat → ClassId) (vl u : Nat → Nat) (hU0 : tw_inj (cX vl) u) (hlt : l.stackTraces = false) (sa : Nat → Nat) (K : Nat) (r0 : Nat) (x1 : Int32) (x2 : Int32) (hr0 : cw_X11 r0) (z z1 : ow_MS) (k9 : Nat) (r : Int32) (hq : ce_X11_smooth vl K r0 x1 x2 z = some (k9, r, z1)) : vx_Met l yX11_smooth wc_X11_smooth ({ frames := 7, cells := 4, slots := 24, locals := 176 } : Room) (va_Pc [.ref (u r0), .int x1, .int x2] (cw_preT D q vl u sa z)) (va_Qi (fun x (_ : Unit) => k9 = 0 ∧ x = r) (fun _ t => va_P D vwCl (uw (cX vl) q u z1) t.heap) (tw_A (cX vl) u)) (ct_X D q vl u k9 z1) 4 24 (tw_A (cX vl) u) := by
  refine vx_ofW (cc := cX11_smooth) (maxL := 3) (ret := (some .int)) (by decide) rfl ?_
  intro p e s m args below meth c s₁ B hml hex hv
  obtain ⟨rfl, hP, hK, hTh⟩ := hv
  have hx := B.exec
  have hb := B.bytes
  have hr := B.returns
  have hts := atoms_spec (ws := wc_X11_smooth) B.pre
  have hT : ∀ w ∈ wC, w.before ([.ref (u r0), .int x1, .int x2] : List Value).toArray s = true := fun w h => hts w (List.mem_cons_of_mem _ (wT_C w h))
  have hown : s.vm.findClass RX11 = some m.cls := findClass_of_methodNamed B.named
  have hlocks := B.notSynchronized
  have hU : uw_inj (cX vl) u (tw_A (cX vl) u) := ⟨hU0, fun h hh => ⟨h, hh, rfl⟩⟩
  have hM : uw_M D vwCl (cX vl) q (tw_A (cX vl) u) s.heap u z s.heap [] := ⟨hP, va_S.rf⟩
  have hl := lv_entry ([.ref (u r0), .int x1, .int x2]) (n := 3) (Nat.le_of_ble_eq_true rfl)
  rw [lg_entry_eq]
  generalize (lg_sl ([.ref (u r0), .int x1, .int x2]) ++ List.replicate (3 - (lg_sl ([.ref (u r0), .int x1, .int x2])).length) Slot.unset).toArray = ls at hl ⊢
  have hl : lv_has ls 3 [(0, .ref (u r0)), (1, .int x1), (2, .int x2)] := hl
  refine ow_named (fun QQ hQQ => ?_)
  generalize ([.ref (u r0), .int x1, .int x2] : List Value).toArray = args at hts hT hQQ ⊢
  have hq : cm_X11_smooth_0 vl K x1 x2 r0 z = some (k9, r, z1) := hq
  unfold cm_X11_smooth_0 at hq
  suffices key : ∀ (H : Heap) (locs : List Loc), uw_M D vwCl (cX vl) q (tw_A (cX vl) u) s.heap u z H locs → W p l e ({ frames := 7, cells := 4, slots := 24, locals := 176 } : Room) s m args below meth c H locs 0 0 QQ (F0 m 0 ls []) from key s.heap [] hM
  intro H locs hM
  refine lv_aload_n hx hb dcX11_smooth_0 rfl (lv_at hl 0 rfl) ?_
  refine lv_iload_n hx hb dcX11_smooth_1 rfl (lv_at hl 1 rfl) ?_
  obtain ⟨k2, z1, hcq, hq⟩ := ct_tc0 hq
  refine ct_calv hU hM (vx_runV (As := [.int x1]) (rest := []) ⟨hx, hb, hml, hown, hts⟩ (kc_X11_needDiagram l D q vl u hU.1 hlt sa K r0 x1 hr0 z z1 k2 hcq) (cwV 1 hts (tw_gV2 wT_good (fun _ h => h) (wT_C _ xq_818) (wT_C _ xq_819) (wT_C _ xq_820) (wT_C _ xq_773) (wT_C _ xq_807)) rfl rfl rfl cdd_X11_needDiagram ⟨(Nat.le_of_ble_eq_true rfl), (Nat.le_of_ble_eq_true rfl)⟩) (ct_preV hK hTh hM (co_X11 hr0) rfl) rfl rfl hl.1 rfl (lv_room (Nat.le_of_ble_eq_true rfl)) dcX11_smooth_2 ⟨(Nat.le_of_ble_eq_true rfl), (Nat.le_of_ble_eq_true rfl)⟩) (fun E ce q9 H locs hk hE hM hce hcv hcl => ?_) (fun H locs hk hM => ?_)
  · have hq := tw_if hq hk
    obtain ⟨rfl, h9⟩ := Prod.mk.inj (Option.some.inj hq)
    obtain ⟨rfl, rfl⟩ := Prod.mk.inj h9
    exact ct_out hex hlocks hk hE hM hce hcv hcl hQQ (Nat.le_of_ble_eq_true rfl) (Nat.le_of_ble_eq_true rfl)
  have hq := tw_it hq hk
  refine lv_aload_n hx hb dcX11_smooth_5 rfl (lv_at hl 0 rfl) ?_
  refine vgX11_27 hx hb hT hown hK hM hr0 dcX11_smooth_6 ?_
  refine lv_aload_n hx hb dcX11_smooth_9 rfl (lv_at hl 0 rfl) ?_
  refine vgX11_14 hx hb hT hown hK hM hr0 dcX11_smooth_10 ?_
  refine lv_iload_n hx hb dcX11_smooth_13 rfl (lv_at hl 1 rfl) ?_
  obtain ⟨z3, hcq, hq⟩ := tw_cl0 hq
  refine uw_calv hU hM (va_runV (As := [.ref (u (r0 + 1000)), .int x1]) (rest := []) ⟨hx, hb, hml, hown, hts⟩ (kc_X7_load l D q vl u hU.1 K (r0 + 4000) (r0 + 1000) x1 (cs_X11_3 hr0) (cs_X11_0 hr0) z1 z3 hcq) (cwV 2 hts (tw_gV2 wT_good wT_C (wT_C _ xq_821) (wT_C _ xq_468) (wT_C _ xq_469) (wT_C _ xq_54) (wT_C _ xq_470)) rfl rfl rfl cdd_X7_load ⟨(Nat.le_of_ble_eq_true rfl), (Nat.le_of_ble_eq_true rfl)⟩) (cw_preV hK hM (co_X7 (cs_X11_3 hr0)) rfl) rfl rfl hl.1 rfl (lv_room (Nat.le_of_ble_eq_true rfl)) dcX11_smooth_14 ⟨(Nat.le_of_ble_eq_true rfl), (Nat.le_of_ble_eq_true rfl)⟩) (fun H locs hM => ?_)
  refine lv_aload_n hx hb dcX11_smooth_17 rfl (lv_at hl 0 rfl) ?_
  refine lv_iload_n hx hb dcX11_smooth_18 rfl (lv_at hl 2 rfl) ?_
  obtain ⟨k5, z4, hcq, hq⟩ := ct_tc0 hq
  refine ct_calv hU hM (vx_runV (As := [.int x2]) (rest := []) ⟨hx, hb, hml, hown, hts⟩ (kc_X11_needCrossing l D q vl u hU.1 hlt sa K r0 x2 hr0 z3 z4 k5 hcq) (cwV 1 hts (tw_gV2 wT_good (fun _ h => h) (wT_C _ xq_847) (wT_C _ xq_848) (wT_C _ xq_849) (wT_C _ xq_773) (wT_C _ xq_838)) rfl rfl rfl cdd_X11_needCrossing ⟨(Nat.le_of_ble_eq_true rfl), (Nat.le_of_ble_eq_true rfl)⟩) (ct_preV hK hTh hM (co_X11 hr0) rfl) rfl rfl hl.1 rfl (lv_room (Nat.le_of_ble_eq_true rfl)) dcX11_smooth_19 ⟨(Nat.le_of_ble_eq_true rfl), (Nat.le_of_ble_eq_true rfl)⟩) (fun E ce q9 H locs hk hE hM hce hcv hcl => ?_) (fun H locs hk hM => ?_)
  · have hq := tw_if hq hk
    obtain ⟨rfl, h9⟩ := Prod.mk.inj (Option.some.inj hq)
    obtain ⟨rfl, rfl⟩ := Prod.mk.inj h9
    exact ct_out hex hlocks hk hE hM hce hcv hcl hQQ (Nat.le_of_ble_eq_true rfl) (Nat.le_of_ble_eq_true rfl)
  have hq := tw_it hq hk
  refine lv_aload_n hx hb dcX11_smooth_22 rfl (lv_at hl 0 rfl) ?_
  refine vgX11_27 hx hb hT hown hK hM hr0 dcX11_smooth_23 ?_
  refine lv_iload_n hx hb dcX11_smooth_26 rfl (lv_at hl 2 rfl) ?_
  obtain ⟨z6, hcq, hq⟩ := tw_cl0 hq
  refine uw_calv hU hM (va_runV (As := [.int x2]) (rest := []) ⟨hx, hb, hml, hown, hts⟩ (kc_X7_smoothCrossing l D q vl u hU.1 K (r0 + 4000) x2 (cs_X11_3 hr0) z4 z6 hcq) (cwV 1 hts (tw_gV2 wT_good wT_C (wT_C _ xq_852) (wT_C _ xq_622) (wT_C _ xq_623) (wT_C _ xq_54) (wT_C _ xq_574)) rfl rfl rfl cdd_X7_smoothCrossing ⟨(Nat.le_of_ble_eq_true rfl), (Nat.le_of_ble_eq_true rfl)⟩) (cw_preV hK hM (co_X7 (cs_X11_3 hr0)) rfl) rfl rfl hl.1 rfl (lv_room (Nat.le_of_ble_eq_true rfl)) dcX11_smooth_27 ⟨(Nat.le_of_ble_eq_true rfl), (Nat.le_of_ble_eq_true rfl)⟩) (fun H locs hM => ?_)
  refine lv_aload_n hx hb dcX11_smooth_30 rfl (lv_at hl 0 rfl) ?_
  refine vgX11_27 hx hb hT hown hK hM hr0 dcX11_smooth_31 ?_
  obtain ⟨z7, hcq, hq⟩ := tw_cl0 hq
  refine uw_calv hU hM (va_runV (As := []) (rest := []) ⟨hx, hb, hml, hown, hts⟩ (kc_X7_markRings l D q vl u hU.1 K (r0 + 4000) (cs_X11_3 hr0) z6 z7 hcq) (cwV 0 hts (tw_gV2 wT_good wT_C (wT_C _ xq_853) (wT_C _ xq_585) (wT_C _ xq_586) (wT_C _ xq_54) (wT_C _ xq_579)) rfl rfl rfl cdd_X7_markRings ⟨(Nat.le_of_ble_eq_true rfl), (Nat.le_of_ble_eq_true rfl)⟩) (cw_preV hK hM (co_X7 (cs_X11_3 hr0)) rfl) rfl rfl hl.1 rfl (lv_room (Nat.le_of_ble_eq_true rfl)) dcX11_smooth_34 ⟨(Nat.le_of_ble_eq_true rfl), (Nat.le_of_ble_eq_true rfl)⟩) (fun H locs hM => ?_)
  refine lv_aload_n hx hb dcX11_smooth_37 rfl (lv_at hl 0 rfl) ?_
  refine vgX11_27 hx hb hT hown hK hM hr0 dcX11_smooth_38 ?_
  refine vgX11_201 hx hb hT hown hK hM (cs_X11_3 hr0) hq dcX11_smooth_41 (fun v8 hq => ?_)
  refine lv_aload_n hx hb dcX11_smooth_44 rfl (lv_at hl 0 rfl) ?_
  refine vgX11_27 hx hb hT hown hK hM hr0 dcX11_smooth_45 ?_
  refine vgX11_204 hx hb hT hown hK hM (cs_X11_3 hr0) hq dcX11_smooth_48 (fun v9 hq => ?_)
  refine lv_iadd hx hb dcX11_smooth_51 ?_
  refine lv_bipush (v := 6) hx hb dcX11_smooth_52 (by decide) ?_
  refine lv_icmp_le (tgt := 68) hx hb dcX11_smooth_54 (by decide) (fun hc => ?_) (fun hc => ?_)
  · have hq := tw_it hq hc
    refine lv_aload_n hx hb dcX11_smooth_68 rfl (lv_at hl 0 rfl) ?_
    refine lv_aload_n hx hb dcX11_smooth_69 rfl (lv_at hl 0 rfl) ?_
    obtain ⟨k11, v12, z10, hcq, hq⟩ := ct_tc1 hq
    refine ct_cali hU hM (vx_runV (As := []) (rest := [.ref (u r0)]) ⟨hx, hb, hml, hown, hts⟩ (kc_X11_freeDiagram l D q vl u hU.1 hlt sa K r0 hr0 z7 z10 k11 v12 hcq) (cwV 0 hts (tw_gV2 wT_good (fun _ h => h) (wT_C _ xq_770) (wT_C _ xq_771) (wT_C _ xq_772) (wT_C _ xq_773) (wT_C _ xq_774)) rfl rfl rfl cdd_X11_freeDiagram ⟨(Nat.le_of_ble_eq_true rfl), (Nat.le_of_ble_eq_true rfl)⟩) (ct_preV hK hTh hM (co_X11 hr0) rfl) rfl rfl hl.1 rfl (lv_room (Nat.le_of_ble_eq_true rfl)) dcX11_smooth_70 ⟨(Nat.le_of_ble_eq_true rfl), (Nat.le_of_ble_eq_true rfl)⟩) (fun E ce q9 H locs hk hE hM hce hcv hcl => ?_) (fun H locs hk hM => ?_)
    · have hq := tw_if hq hk
      obtain ⟨rfl, h9⟩ := Prod.mk.inj (Option.some.inj hq)
      obtain ⟨rfl, rfl⟩ := Prod.mk.inj h9
      exact ct_out hex hlocks hk hE hM hce hcv hcl hQQ (Nat.le_of_ble_eq_true rfl) (Nat.le_of_ble_eq_true rfl)
    have hq := tw_it hq hk
    obtain ⟨v14, z13, hcq, hq⟩ := tw_cl1 hq
    refine uw_cali hU hM (va_runV (As := [.int v12]) (rest := []) ⟨hx, hb, hml, hown, hts⟩ (kc_X11_keep l D q vl u hU.1 K r0 v12 hr0 z10 z13 v14 hcq) (cwV 1 hts (tw_gV2 wT_good wT_C (wT_C _ xq_781) (wT_C _ xq_782) (wT_C _ xq_783) (wT_C _ xq_773) (wT_C _ xq_784)) rfl rfl rfl cdd_X11_keep ⟨(Nat.le_of_ble_eq_true rfl), (Nat.le_of_ble_eq_true rfl)⟩) (cw_preV hK hM (co_X11 hr0) rfl) rfl rfl hl.1 rfl (lv_room (Nat.le_of_ble_eq_true rfl)) dcX11_smooth_73 ⟨(Nat.le_of_ble_eq_true rfl), (Nat.le_of_ble_eq_true rfl)⟩) (fun H locs hM => ?_)
    exact ct_iret hx hb hr hlocks hM hq hQQ (Nat.le_of_ble_eq_true rfl) (Nat.le_of_ble_eq_true rfl) dcX11_smooth_76
  · have hq := tw_if hq hc
    obtain ⟨rfl, h9⟩ := Prod.mk.inj (Option.some.inj hq)
    obtain ⟨rfl, rfl⟩ := Prod.mk.inj h9
    exact ct_throwW (k := 4) (text := "more than 6 components") (cls := "java/lang/UnsupportedOperationException") hx hb hlt hown hex hlocks (by rw [hml]; exact hl.1.symm) hTh (List.mem_of_getElem? (i := 13) rfl) rfl (by decide) (by decide +kernel) (hts _ (List.mem_cons_of_mem _ wT_k4)) (hts _ (List.mem_cons_of_mem _ wT_i4)) (fun w h => hts w (List.mem_cons_of_mem _ (wT_4 w h))) th9_4 tg9_4 hM dcX11_smooth_57 dcX11_smooth_60 dcX11_smooth_61 dcX11_smooth_64 dcX11_smooth_67 hQQ (Nat.le_of_ble_eq_true rfl) (Nat.le_of_ble_eq_true rfl) (Nat.le_of_ble_eq_true rfl) (Nat.le_of_ble_eq_true rfl) (Nat.le_of_ble_eq_true rfl) (Nat.le_of_ble_eq_true rfl)
theorem dcX11_loadBoth_0 : decode cX11_loadBoth 0 = .ok (.aload_n 0, 1) := dw_at cX11_loadBoth_k0 (p := 0) rfl (by decide +kernel)
theorem dcX11_loadBoth_1 : decode cX11_loadBoth 1 = .ok (.getfield 27, 3) := dw_at cX11_loadBoth_k0 (p := 1) rfl (by decide +kernel)
theorem dcX11_loadBoth_4 : decode cX11_loadBoth 4 = .ok (.aload_n 0, 1) := dw_at cX11_loadBoth_k0 (p := 4) rfl (by decide +kernel)
theorem dcX11_loadBoth_5 : decode cX11_loadBoth 5 = .ok (.getfield 14, 3) := dw_at cX11_loadBoth_k0 (p := 5) rfl (by decide +kernel)
theorem dcX11_loadBoth_8 : decode cX11_loadBoth 8 = .ok (.iload_n 1, 1) := dw_at cX11_loadBoth_k0 (p := 8) rfl (by decide +kernel)
theorem dcX11_loadBoth_9 : decode cX11_loadBoth 9 = .ok (.invokevirtual 194, 3) := dw_at cX11_loadBoth_k0 (p := 9) rfl (by decide +kernel)
theorem dcX11_loadBoth_12 : decode cX11_loadBoth 12 = .ok (.aload_n 0, 1) := dw_at cX11_loadBoth_k0 (p := 12) rfl (by decide +kernel)
theorem dcX11_loadBoth_13 : decode cX11_loadBoth 13 = .ok (.getfield 31, 3) := dw_at cX11_loadBoth_k0 (p := 13) rfl (by decide +kernel)
theorem dcX11_loadBoth_16 : decode cX11_loadBoth 16 = .ok (.aload_n 0, 1) := dw_at cX11_loadBoth_k0 (p := 16) rfl (by decide +kernel)
theorem dcX11_loadBoth_17 : decode cX11_loadBoth 17 = .ok (.getfield 14, 3) := dw_at cX11_loadBoth_k0 (p := 17) rfl (by decide +kernel)
theorem dcX11_loadBoth_20 : decode cX11_loadBoth 20 = .ok (.iload_n 2, 1) := dw_at cX11_loadBoth_k0 (p := 20) rfl (by decide +kernel)
theorem dcX11_loadBoth_21 : decode cX11_loadBoth 21 = .ok (.invokevirtual 194, 3) := dw_at cX11_loadBoth_k0 (p := 21) rfl (by decide +kernel)
theorem dcX11_loadBoth_24 : decode cX11_loadBoth 24 = .ok (.aload_n 0, 1) := dw_at cX11_loadBoth_k1 (p := 0) rfl (by decide +kernel)
theorem dcX11_loadBoth_25 : decode cX11_loadBoth 25 = .ok (.getfield 27, 3) := dw_at cX11_loadBoth_k1 (p := 1) rfl (by decide +kernel)
theorem dcX11_loadBoth_28 : decode cX11_loadBoth 28 = .ok (.getfield 198, 3) := dw_at cX11_loadBoth_k1 (p := 4) rfl (by decide +kernel)
theorem dcX11_loadBoth_31 : decode cX11_loadBoth 31 = .ok (.aload_n 0, 1) := dw_at cX11_loadBoth_k1 (p := 7) rfl (by decide +kernel)
theorem dcX11_loadBoth_32 : decode cX11_loadBoth 32 = .ok (.getfield 31, 3) := dw_at cX11_loadBoth_k1 (p := 8) rfl (by decide +kernel)
theorem dcX11_loadBoth_35 : decode cX11_loadBoth 35 = .ok (.getfield 198, 3) := dw_at cX11_loadBoth_k1 (p := 11) rfl (by decide +kernel)
theorem dcX11_loadBoth_38 : decode cX11_loadBoth 38 = .ok (.iadd, 1) := dw_at cX11_loadBoth_k1 (p := 14) rfl (by decide +kernel)
theorem dcX11_loadBoth_39 : decode cX11_loadBoth 39 = .ok (.bipush 12, 2) := dw_at cX11_loadBoth_k1 (p := 15) rfl (by decide +kernel)
theorem dcX11_loadBoth_41 : decode cX11_loadBoth 41 = .ok (.if_icmp .gt 25, 3) := dw_at cX11_loadBoth_k1 (p := 17) rfl (by decide +kernel)
theorem dcX11_loadBoth_44 : decode cX11_loadBoth 44 = .ok (.aload_n 0, 1) := dw_at cX11_loadBoth_k1 (p := 20) rfl (by decide +kernel)
theorem dcX11_loadBoth_45 : decode cX11_loadBoth 45 = .ok (.getfield 27, 3) := dw_at cX11_loadBoth_k1 (p := 21) rfl (by decide +kernel)
theorem dcX11_loadBoth_48 : decode cX11_loadBoth 48 = .ok (.getfield 201, 3) := dw_at cX11_loadBoth_k2 (p := 0) rfl (by decide +kernel)
theorem dcX11_loadBoth_51 : decode cX11_loadBoth 51 = .ok (.aload_n 0, 1) := dw_at cX11_loadBoth_k2 (p := 3) rfl (by decide +kernel)
theorem dcX11_loadBoth_52 : decode cX11_loadBoth 52 = .ok (.getfield 31, 3) := dw_at cX11_loadBoth_k2 (p := 4) rfl (by decide +kernel)
theorem dcX11_loadBoth_55 : decode cX11_loadBoth 55 = .ok (.getfield 201, 3) := dw_at cX11_loadBoth_k2 (p := 7) rfl (by decide +kernel)
theorem dcX11_loadBoth_58 : decode cX11_loadBoth 58 = .ok (.iadd, 1) := dw_at cX11_loadBoth_k2 (p := 10) rfl (by decide +kernel)
theorem dcX11_loadBoth_59 : decode cX11_loadBoth 59 = .ok (.iload_n 3, 1) := dw_at cX11_loadBoth_k2 (p := 11) rfl (by decide +kernel)
theorem dcX11_loadBoth_60 : decode cX11_loadBoth 60 = .ok (.isub, 1) := dw_at cX11_loadBoth_k2 (p := 12) rfl (by decide +kernel)
theorem dcX11_loadBoth_61 : decode cX11_loadBoth 61 = .ok (.bipush 6, 2) := dw_at cX11_loadBoth_k2 (p := 13) rfl (by decide +kernel)
theorem dcX11_loadBoth_63 : decode cX11_loadBoth 63 = .ok (.if_icmp .le 14, 3) := dw_at cX11_loadBoth_k2 (p := 15) rfl (by decide +kernel)
theorem dcX11_loadBoth_66 : decode cX11_loadBoth 66 = .ok (.new 263, 3) := dw_at cX11_loadBoth_k2 (p := 18) rfl (by decide +kernel)
theorem dcX11_loadBoth_69 : decode cX11_loadBoth 69 = .ok (.dup, 1) := dw_at cX11_loadBoth_k2 (p := 21) rfl (by decide +kernel)
theorem dcX11_loadBoth_70 : decode cX11_loadBoth 70 = .ok (.ldc_w 279, 3) := dw_at cX11_loadBoth_k2 (p := 22) rfl (by decide +kernel)
theorem dcX11_loadBoth_73 : decode cX11_loadBoth 73 = .ok (.invokespecial 267, 3) := dw_at cX11_loadBoth_k2 (p := 25) rfl (by decide +kernel)
theorem dcX11_loadBoth_76 : decode cX11_loadBoth 76 = .ok (.athrow, 1) := dw_at cX11_loadBoth_k2 (p := 28) rfl (by decide +kernel)
theorem dcX11_loadBoth_77 : decode cX11_loadBoth 77 = .ok (.return_, 1) := dw_at cX11_loadBoth_k2 (p := 29) rfl (by decide +kernel)
def cm_X11_loadBoth_0 (vl : Nat → Nat) (K : Nat) (x1 : Int32) (x2 : Int32) (x3 : Int32) (r0 : Nat) (z : ow_MS) : Option (Nat × ow_MS) :=
 cs0 (ce_X7_load vl K (r0 + 4000) (r0 + 1000) x1 z) fun z1 => cs0 (ce_X7_load vl K (r0 + 5000) (r0 + 1000) x2 z1) fun z2 => rdF z2 ((r0 + 4000) + 8) fun v3 => rdF z2 ((r0 + 5000) + 8) fun v4 => (if 12 < (v3 + v4) then some (4, z2)
 else rdF z2 ((r0 + 4000) + 10) fun v5 => rdF z2 ((r0 + 5000) + 10) fun v6 => (if ((v5 + v6) - x3) ≤ 6 then some (0, z2)
 else some (4, z2)))
def ce_X11_loadBoth (vl : Nat → Nat) (K : Nat) (r0 : Nat) (x1 : Int32) (x2 : Int32) (x3 : Int32) (z : ow_MS) : Option (Nat × ow_MS) := cm_X11_loadBoth_0 vl K x1 x2 x3 r0 z
abbrev wc_X11_loadBoth : List Cond := .code yX11_loadBoth cX11_loadBoth 4 none :: wT
theorem cdd_X11_loadBoth : yX11_loadBoth.cls = RX11 ∧ yX11_loadBoth.cls ≠ "java/lang/invoke/MethodHandle" ∧ yX11_loadBoth.cls ≠ "java/lang/invoke/VarHandle" ∧ (parseMethodDescriptor yX11_loadBoth.desc).map (fun d => d.parameters.length) = some 3 := by decide +kernel
set_option maxHeartbeats 4000000 in
set_option maxRecDepth 100000 in
theorem kc_X11_loadBoth (l : Launch) (D : va_G) (q : Nat → ClassId) (vl u : Nat → Nat) (hU0 : tw_inj (cX vl) u) (hlt : l.stackTraces = false) (sa : Nat → Nat) (K : Nat) (r0 : Nat) (x1 : Int32) (x2 : Int32) (x3 : Int32) (hr0 : cw_X11 r0) (z z1 : ow_MS) (k9 : Nat) (hq : ce_X11_loadBoth vl K r0 x1 x2 x3 z = some (k9, z1)) : vx_Met l yX11_loadBoth wc_X11_loadBoth ({ frames := 6, cells := 1, slots := 6, locals := 90 } : Room) (va_Pc [.ref (u r0), .int x1, .int x2, .int x3] (cw_preT D q vl u sa z)) (va_Qv (fun (_ : Unit) => k9 = 0) (fun _ t => va_P D vwCl (uw (cX vl) q u z1) t.heap) (tw_A (cX vl) u)) (ct_X D q vl u k9 z1) 1 6 (tw_A (cX vl) u) := by
  refine vx_ofW (cc := cX11_loadBoth) (maxL := 4) (ret := none) (by decide) rfl ?_
  intro p e s m args below meth c s₁ B hml hex hv
  obtain ⟨rfl, hP, hK, hTh⟩ := hv
  have hx := B.exec
  have hb := B.bytes
  have hr := B.returns
  have hts := atoms_spec (ws := wc_X11_loadBoth) B.pre
  have hT : ∀ w ∈ wC, w.before ([.ref (u r0), .int x1, .int x2, .int x3] : List Value).toArray s = true := fun w h => hts w (List.mem_cons_of_mem _ (wT_C w h))
  have hown : s.vm.findClass RX11 = some m.cls := findClass_of_methodNamed B.named
  have hlocks := B.notSynchronized
  have hU : uw_inj (cX vl) u (tw_A (cX vl) u) := ⟨hU0, fun h hh => ⟨h, hh, rfl⟩⟩
  have hM : uw_M D vwCl (cX vl) q (tw_A (cX vl) u) s.heap u z s.heap [] := ⟨hP, va_S.rf⟩
  have hl := lv_entry ([.ref (u r0), .int x1, .int x2, .int x3]) (n := 4) (Nat.le_of_ble_eq_true rfl)
  rw [lg_entry_eq]
  generalize (lg_sl ([.ref (u r0), .int x1, .int x2, .int x3]) ++ List.replicate (4 - (lg_sl ([.ref (u r0), .int x1, .int x2, .int x3])).length) Slot.unset).toArray = ls at hl ⊢
  have hl : lv_has ls 4 [(0, .ref (u r0)), (1, .int x1), (2, .int x2), (3, .int x3)] := hl
  refine ow_named (fun QQ hQQ => ?_)
  generalize ([.ref (u r0), .int x1, .int x2, .int x3] : List Value).toArray = args at hts hT hQQ ⊢
  have hq : cm_X11_loadBoth_0 vl K x1 x2 x3 r0 z = some (k9, z1) := hq
  unfold cm_X11_loadBoth_0 at hq
  suffices key : ∀ (H : Heap) (locs : List Loc), uw_M D vwCl (cX vl) q (tw_A (cX vl) u) s.heap u z H locs → W p l e ({ frames := 6, cells := 1, slots := 6, locals := 90 } : Room) s m args below meth c H locs 0 0 QQ (F0 m 0 ls []) from key s.heap [] hM
  intro H locs hM
  refine lv_aload_n hx hb dcX11_loadBoth_0 rfl (lv_at hl 0 rfl) ?_
  refine vgX11_27 hx hb hT hown hK hM hr0 dcX11_loadBoth_1 ?_
  refine lv_aload_n hx hb dcX11_loadBoth_4 rfl (lv_at hl 0 rfl) ?_
  refine vgX11_14 hx hb hT hown hK hM hr0 dcX11_loadBoth_5 ?_
  refine lv_iload_n hx hb dcX11_loadBoth_8 rfl (lv_at hl 1 rfl) ?_
  obtain ⟨z1, hcq, hq⟩ := tw_cl0 hq
  refine uw_calv hU hM (va_runV (As := [.ref (u (r0 + 1000)), .int x1]) (rest := []) ⟨hx, hb, hml, hown, hts⟩ (kc_X7_load l D q vl u hU.1 K (r0 + 4000) (r0 + 1000) x1 (cs_X11_3 hr0) (cs_X11_0 hr0) z z1 hcq) (cwV 2 hts (tw_gV2 wT_good wT_C (wT_C _ xq_821) (wT_C _ xq_468) (wT_C _ xq_469) (wT_C _ xq_54) (wT_C _ xq_470)) rfl rfl rfl cdd_X7_load ⟨(Nat.le_of_ble_eq_true rfl), (Nat.le_of_ble_eq_true rfl)⟩) (cw_preV hK hM (co_X7 (cs_X11_3 hr0)) rfl) rfl rfl hl.1 rfl (lv_room (Nat.le_of_ble_eq_true rfl)) dcX11_loadBoth_9 ⟨(Nat.le_of_ble_eq_true rfl), (Nat.le_of_ble_eq_true rfl)⟩) (fun H locs hM => ?_)
  refine lv_aload_n hx hb dcX11_loadBoth_12 rfl (lv_at hl 0 rfl) ?_
  refine vgX11_31 hx hb hT hown hK hM hr0 dcX11_loadBoth_13 ?_
  refine lv_aload_n hx hb dcX11_loadBoth_16 rfl (lv_at hl 0 rfl) ?_
  refine vgX11_14 hx hb hT hown hK hM hr0 dcX11_loadBoth_17 ?_
  refine lv_iload_n hx hb dcX11_loadBoth_20 rfl (lv_at hl 2 rfl) ?_
  obtain ⟨z2, hcq, hq⟩ := tw_cl0 hq
  refine uw_calv hU hM (va_runV (As := [.ref (u (r0 + 1000)), .int x2]) (rest := []) ⟨hx, hb, hml, hown, hts⟩ (kc_X7_load l D q vl u hU.1 K (r0 + 5000) (r0 + 1000) x2 (cs_X11_4 hr0) (cs_X11_0 hr0) z1 z2 hcq) (cwV 2 hts (tw_gV2 wT_good wT_C (wT_C _ xq_821) (wT_C _ xq_468) (wT_C _ xq_469) (wT_C _ xq_54) (wT_C _ xq_470)) rfl rfl rfl cdd_X7_load ⟨(Nat.le_of_ble_eq_true rfl), (Nat.le_of_ble_eq_true rfl)⟩) (cw_preV hK hM (co_X7 (cs_X11_4 hr0)) rfl) rfl rfl hl.1 rfl (lv_room (Nat.le_of_ble_eq_true rfl)) dcX11_loadBoth_21 ⟨(Nat.le_of_ble_eq_true rfl), (Nat.le_of_ble_eq_true rfl)⟩) (fun H locs hM => ?_)
  refine lv_aload_n hx hb dcX11_loadBoth_24 rfl (lv_at hl 0 rfl) ?_
  refine vgX11_27 hx hb hT hown hK hM hr0 dcX11_loadBoth_25 ?_
  refine vgX11_198 hx hb hT hown hK hM (cs_X11_3 hr0) hq dcX11_loadBoth_28 (fun v3 hq => ?_)
  refine lv_aload_n hx hb dcX11_loadBoth_31 rfl (lv_at hl 0 rfl) ?_
  refine vgX11_31 hx hb hT hown hK hM hr0 dcX11_loadBoth_32 ?_
  refine vgX11_198 hx hb hT hown hK hM (cs_X11_4 hr0) hq dcX11_loadBoth_35 (fun v4 hq => ?_)
  refine lv_iadd hx hb dcX11_loadBoth_38 ?_
  refine lv_bipush (v := 12) hx hb dcX11_loadBoth_39 (by decide) ?_
  refine lv_icmp_gt (tgt := 66) hx hb dcX11_loadBoth_41 (by decide) (fun hc => ?_) (fun hc => ?_)
  · have hq := tw_it hq hc
    obtain ⟨rfl, rfl⟩ := Prod.mk.inj (Option.some.inj hq)
    exact ct_throwW (k := 4) (text := "more than 12 crossings or 6 components") (cls := "java/lang/UnsupportedOperationException") hx hb hlt hown hex hlocks (by rw [hml]; exact hl.1.symm) hTh (List.mem_of_getElem? (i := 14) rfl) rfl (by decide) (by decide +kernel) (hts _ (List.mem_cons_of_mem _ wT_k4)) (hts _ (List.mem_cons_of_mem _ wT_i4)) (fun w h => hts w (List.mem_cons_of_mem _ (wT_4 w h))) th9_4 tg9_4 hM dcX11_loadBoth_66 dcX11_loadBoth_69 dcX11_loadBoth_70 dcX11_loadBoth_73 dcX11_loadBoth_76 hQQ (Nat.le_of_ble_eq_true rfl) (Nat.le_of_ble_eq_true rfl) (Nat.le_of_ble_eq_true rfl) (Nat.le_of_ble_eq_true rfl) (Nat.le_of_ble_eq_true rfl) (Nat.le_of_ble_eq_true rfl)
  · have hq := tw_if hq hc
    refine lv_aload_n hx hb dcX11_loadBoth_44 rfl (lv_at hl 0 rfl) ?_
    refine vgX11_27 hx hb hT hown hK hM hr0 dcX11_loadBoth_45 ?_
    refine vgX11_201 hx hb hT hown hK hM (cs_X11_3 hr0) hq dcX11_loadBoth_48 (fun v5 hq => ?_)
    refine lv_aload_n hx hb dcX11_loadBoth_51 rfl (lv_at hl 0 rfl) ?_
    refine vgX11_31 hx hb hT hown hK hM hr0 dcX11_loadBoth_52 ?_
    refine vgX11_201 hx hb hT hown hK hM (cs_X11_4 hr0) hq dcX11_loadBoth_55 (fun v6 hq => ?_)
    refine lv_iadd hx hb dcX11_loadBoth_58 ?_
    refine lv_iload_n hx hb dcX11_loadBoth_59 rfl (lv_at hl 3 rfl) ?_
    refine lv_isub hx hb dcX11_loadBoth_60 ?_
    refine lv_bipush (v := 6) hx hb dcX11_loadBoth_61 (by decide) ?_
    refine lv_icmp_le (tgt := 77) hx hb dcX11_loadBoth_63 (by decide) (fun hc => ?_) (fun hc => ?_)
    · have hq := tw_it hq hc
      exact ct_vret hx hb hr hlocks hM hq hQQ (Nat.le_of_ble_eq_true rfl) (Nat.le_of_ble_eq_true rfl) dcX11_loadBoth_77
    · have hq := tw_if hq hc
      obtain ⟨rfl, rfl⟩ := Prod.mk.inj (Option.some.inj hq)
      exact ct_throwW (k := 4) (text := "more than 12 crossings or 6 components") (cls := "java/lang/UnsupportedOperationException") hx hb hlt hown hex hlocks (by rw [hml]; exact hl.1.symm) hTh (List.mem_of_getElem? (i := 14) rfl) rfl (by decide) (by decide +kernel) (hts _ (List.mem_cons_of_mem _ wT_k4)) (hts _ (List.mem_cons_of_mem _ wT_i4)) (fun w h => hts w (List.mem_cons_of_mem _ (wT_4 w h))) th9_4 tg9_4 hM dcX11_loadBoth_66 dcX11_loadBoth_69 dcX11_loadBoth_70 dcX11_loadBoth_73 dcX11_loadBoth_76 hQQ (Nat.le_of_ble_eq_true rfl) (Nat.le_of_ble_eq_true rfl) (Nat.le_of_ble_eq_true rfl) (Nat.le_of_ble_eq_true rfl) (Nat.le_of_ble_eq_true rfl) (Nat.le_of_ble_eq_true rfl)
theorem dcX11_apart_0 : decode cX11_apart 0 = .ok (.aload_n 0, 1) := by decide +kernel
theorem dcX11_apart_1 : decode cX11_apart 1 = .ok (.iload_n 1, 1) := by decide +kernel
theorem dcX11_apart_2 : decode cX11_apart 2 = .ok (.invokevirtual 189, 3) := by decide +kernel
theorem dcX11_apart_5 : decode cX11_apart 5 = .ok (.aload_n 0, 1) := by decide +kernel
theorem dcX11_apart_6 : decode cX11_apart 6 = .ok (.iload_n 2, 1) := by decide +kernel
theorem dcX11_apart_7 : decode cX11_apart 7 = .ok (.invokevirtual 189, 3) := by decide +kernel
theorem dcX11_apart_10 : decode cX11_apart 10 = .ok (.aload_n 0, 1) := by decide +kernel
theorem dcX11_apart_11 : decode cX11_apart 11 = .ok (.iload_n 1, 1) := by decide +kernel
theorem dcX11_apart_12 : decode cX11_apart 12 = .ok (.iload_n 2, 1) := by decide +kernel
theorem dcX11_apart_13 : decode cX11_apart 13 = .ok (.iconst 0, 1) := by decide +kernel
theorem dcX11_apart_14 : decode cX11_apart 14 = .ok (.invokevirtual 268, 3) := by decide +kernel
theorem dcX11_apart_17 : decode cX11_apart 17 = .ok (.aload_n 0, 1) := by decide +kernel
theorem dcX11_apart_18 : decode cX11_apart 18 = .ok (.invokevirtual 133, 3) := by decide +kernel
theorem dcX11_apart_21 : decode cX11_apart 21 = .ok (.istore_n 3, 1) := by decide +kernel
theorem dcX11_apart_22 : decode cX11_apart 22 = .ok (.aload_n 0, 1) := by decide +kernel
theorem dcX11_apart_23 : decode cX11_apart 23 = .ok (.getfield 27, 3) := by decide +kernel
theorem dcX11_apart_26 : decode cX11_apart 26 = .ok (.aload_n 0, 1) := by decide +kernel
theorem dcX11_apart_27 : decode cX11_apart 27 = .ok (.getfield 31, 3) := by decide +kernel
theorem dcX11_apart_30 : decode cX11_apart 30 = .ok (.invokevirtual 272, 3) := by decide +kernel
theorem dcX11_apart_33 : decode cX11_apart 33 = .ok (.aload_n 0, 1) := by decide +kernel
theorem dcX11_apart_34 : decode cX11_apart 34 = .ok (.iload_n 3, 1) := by decide +kernel
theorem dcX11_apart_35 : decode cX11_apart 35 = .ok (.invokevirtual 145, 3) := by decide +kernel
theorem dcX11_apart_38 : decode cX11_apart 38 = .ok (.ireturn, 1) := by decide +kernel
def cm_X11_apart_0 (vl : Nat → Nat) (K : Nat) (x1 : Int32) (x2 : Int32) (r0 : Nat) (z : ow_MS) : Option (Nat × Int32 × ow_MS) :=
 tc0 (ce_X11_needDiagram vl K r0 x1 z) (fun k z => some (k, 0, z)) fun z1 => tc0 (ce_X11_needDiagram vl K r0 x2 z1) (fun k z => some (k, 0, z)) fun z3 => tc0 (ce_X11_loadBoth vl K r0 x1 x2 0 z3) (fun k z => some (k, 0, z)) fun z5 => tc1 (ce_X11_freeDiagram vl K r0 z5) (fun k z => some (k, 0, z)) fun v9 z7 => cs0 (ce_X7_append vl K (r0 + 4000) (r0 + 5000) z7) fun z10 => cs1 (ce_X11_keep vl K r0 v9 z10) fun v12 z11 => some (0, v12, z11)
def ce_X11_apart (vl : Nat → Nat) (K : Nat) (r0 : Nat) (x1 : Int32) (x2 : Int32) (z : ow_MS) : Option (Nat × Int32 × ow_MS) := cm_X11_apart_0 vl K x1 x2 r0 z
abbrev wc_X11_apart : List Cond := .code yX11_apart cX11_apart 4 (some .int) :: wT
theorem cdd_X11_apart : yX11_apart.cls = RX11 ∧ yX11_apart.cls ≠ "java/lang/invoke/MethodHandle" ∧ yX11_apart.cls ≠ "java/lang/invoke/VarHandle" ∧ (parseMethodDescriptor yX11_apart.desc).map (fun d => d.parameters.length) = some 2 := by decide +kernel
set_option maxHeartbeats 4000000 in
set_option maxRecDepth 100000 in
theorem kc_X11_apart (l : Launch) (D : va_G) (q : Nat → ClassId) (vl u : Nat → Nat) (hU0 : tw_inj (cX vl) u) (hlt : l.stackTraces = false) (sa : Nat → Nat) (K : Nat) (r0 : Nat) (x1 : Int32) (x2 : Int32) (hr0 : cw_X11 r0) (z z1 : ow_MS) (k9 : Nat) (r : Int32) (hq : ce_X11_apart vl K r0 x1 x2 z = some (k9, r, z1)) : vx_Met l yX11_apart wc_X11_apart ({ frames := 7, cells := 4, slots := 24, locals := 176 } : Room) (va_Pc [.ref (u r0), .int x1, .int x2] (cw_preT D q vl u sa z)) (va_Qi (fun x (_ : Unit) => k9 = 0 ∧ x = r) (fun _ t => va_P D vwCl (uw (cX vl) q u z1) t.heap) (tw_A (cX vl) u)) (ct_X D q vl u k9 z1) 4 24 (tw_A (cX vl) u) := by
  refine vx_ofW (cc := cX11_apart) (maxL := 4) (ret := (some .int)) (by decide) rfl ?_
  intro p e s m args below meth c s₁ B hml hex hv
  obtain ⟨rfl, hP, hK, hTh⟩ := hv
  have hx := B.exec
  have hb := B.bytes
  have hr := B.returns
  have hts := atoms_spec (ws := wc_X11_apart) B.pre
  have hT : ∀ w ∈ wC, w.before ([.ref (u r0), .int x1, .int x2] : List Value).toArray s = true := fun w h => hts w (List.mem_cons_of_mem _ (wT_C w h))
  have hown : s.vm.findClass RX11 = some m.cls := findClass_of_methodNamed B.named
  have hlocks := B.notSynchronized
  have hU : uw_inj (cX vl) u (tw_A (cX vl) u) := ⟨hU0, fun h hh => ⟨h, hh, rfl⟩⟩
  have hM : uw_M D vwCl (cX vl) q (tw_A (cX vl) u) s.heap u z s.heap [] := ⟨hP, va_S.rf⟩
  have hl := lv_entry ([.ref (u r0), .int x1, .int x2]) (n := 4) (Nat.le_of_ble_eq_true rfl)
  rw [lg_entry_eq]
  generalize (lg_sl ([.ref (u r0), .int x1, .int x2]) ++ List.replicate (4 - (lg_sl ([.ref (u r0), .int x1, .int x2])).length) Slot.unset).toArray = ls at hl ⊢
  have hl : lv_has ls 4 [(0, .ref (u r0)), (1, .int x1), (2, .int x2)] := hl
  refine ow_named (fun QQ hQQ => ?_)
  generalize ([.ref (u r0), .int x1, .int x2] : List Value).toArray = args at hts hT hQQ ⊢
  have hq : cm_X11_apart_0 vl K x1 x2 r0 z = some (k9, r, z1) := hq
  unfold cm_X11_apart_0 at hq
  suffices key : ∀ (H : Heap) (locs : List Loc), uw_M D vwCl (cX vl) q (tw_A (cX vl) u) s.heap u z H locs → W p l e ({ frames := 7, cells := 4, slots := 24, locals := 176 } : Room) s m args below meth c H locs 0 0 QQ (F0 m 0 ls []) from key s.heap [] hM
  intro H locs hM
  refine lv_aload_n hx hb dcX11_apart_0 rfl (lv_at hl 0 rfl) ?_
  refine lv_iload_n hx hb dcX11_apart_1 rfl (lv_at hl 1 rfl) ?_
  obtain ⟨k2, z1, hcq, hq⟩ := ct_tc0 hq
  refine ct_calv hU hM (vx_runV (As := [.int x1]) (rest := []) ⟨hx, hb, hml, hown, hts⟩ (kc_X11_needDiagram l D q vl u hU.1 hlt sa K r0 x1 hr0 z z1 k2 hcq) (cwV 1 hts (tw_gV2 wT_good (fun _ h => h) (wT_C _ xq_818) (wT_C _ xq_819) (wT_C _ xq_820) (wT_C _ xq_773) (wT_C _ xq_807)) rfl rfl rfl cdd_X11_needDiagram ⟨(Nat.le_of_ble_eq_true rfl), (Nat.le_of_ble_eq_true rfl)⟩) (ct_preV hK hTh hM (co_X11 hr0) rfl) rfl rfl hl.1 rfl (lv_room (Nat.le_of_ble_eq_true rfl)) dcX11_apart_2 ⟨(Nat.le_of_ble_eq_true rfl), (Nat.le_of_ble_eq_true rfl)⟩) (fun E ce q9 H locs hk hE hM hce hcv hcl => ?_) (fun H locs hk hM => ?_)
  · have hq := tw_if hq hk
    obtain ⟨rfl, h9⟩ := Prod.mk.inj (Option.some.inj hq)
    obtain ⟨rfl, rfl⟩ := Prod.mk.inj h9
    exact ct_out hex hlocks hk hE hM hce hcv hcl hQQ (Nat.le_of_ble_eq_true rfl) (Nat.le_of_ble_eq_true rfl)
  have hq := tw_it hq hk
  refine lv_aload_n hx hb dcX11_apart_5 rfl (lv_at hl 0 rfl) ?_
  refine lv_iload_n hx hb dcX11_apart_6 rfl (lv_at hl 2 rfl) ?_
  obtain ⟨k4, z3, hcq, hq⟩ := ct_tc0 hq
  refine ct_calv hU hM (vx_runV (As := [.int x2]) (rest := []) ⟨hx, hb, hml, hown, hts⟩ (kc_X11_needDiagram l D q vl u hU.1 hlt sa K r0 x2 hr0 z1 z3 k4 hcq) (cwV 1 hts (tw_gV2 wT_good (fun _ h => h) (wT_C _ xq_818) (wT_C _ xq_819) (wT_C _ xq_820) (wT_C _ xq_773) (wT_C _ xq_807)) rfl rfl rfl cdd_X11_needDiagram ⟨(Nat.le_of_ble_eq_true rfl), (Nat.le_of_ble_eq_true rfl)⟩) (ct_preV hK hTh hM (co_X11 hr0) rfl) rfl rfl hl.1 rfl (lv_room (Nat.le_of_ble_eq_true rfl)) dcX11_apart_7 ⟨(Nat.le_of_ble_eq_true rfl), (Nat.le_of_ble_eq_true rfl)⟩) (fun E ce q9 H locs hk hE hM hce hcv hcl => ?_) (fun H locs hk hM => ?_)
  · have hq := tw_if hq hk
    obtain ⟨rfl, h9⟩ := Prod.mk.inj (Option.some.inj hq)
    obtain ⟨rfl, rfl⟩ := Prod.mk.inj h9
    exact ct_out hex hlocks hk hE hM hce hcv hcl hQQ (Nat.le_of_ble_eq_true rfl) (Nat.le_of_ble_eq_true rfl)
  have hq := tw_it hq hk
  refine lv_aload_n hx hb dcX11_apart_10 rfl (lv_at hl 0 rfl) ?_
  refine lv_iload_n hx hb dcX11_apart_11 rfl (lv_at hl 1 rfl) ?_
  refine lv_iload_n hx hb dcX11_apart_12 rfl (lv_at hl 2 rfl) ?_
  refine lv_iconst (v := 0) hx hb dcX11_apart_13 (by decide) ?_
  obtain ⟨k6, z5, hcq, hq⟩ := ct_tc0 hq
  refine ct_calv hU hM (vx_runV (As := [.int x1, .int x2, .int 0]) (rest := []) ⟨hx, hb, hml, hown, hts⟩ (kc_X11_loadBoth l D q vl u hU.1 hlt sa K r0 x1 x2 0 hr0 z3 z5 k6 hcq) (cwV 3 hts (tw_gV2 wT_good (fun _ h => h) (wT_C _ xq_856) (wT_C _ xq_857) (wT_C _ xq_858) (wT_C _ xq_773) (wT_C _ xq_859)) rfl rfl rfl cdd_X11_loadBoth ⟨(Nat.le_of_ble_eq_true rfl), (Nat.le_of_ble_eq_true rfl)⟩) (ct_preV hK hTh hM (co_X11 hr0) rfl) rfl rfl hl.1 rfl (lv_room (Nat.le_of_ble_eq_true rfl)) dcX11_apart_14 ⟨(Nat.le_of_ble_eq_true rfl), (Nat.le_of_ble_eq_true rfl)⟩) (fun E ce q9 H locs hk hE hM hce hcv hcl => ?_) (fun H locs hk hM => ?_)
  · have hq := tw_if hq hk
    obtain ⟨rfl, h9⟩ := Prod.mk.inj (Option.some.inj hq)
    obtain ⟨rfl, rfl⟩ := Prod.mk.inj h9
    exact ct_out hex hlocks hk hE hM hce hcv hcl hQQ (Nat.le_of_ble_eq_true rfl) (Nat.le_of_ble_eq_true rfl)
  have hq := tw_it hq hk
  refine lv_aload_n hx hb dcX11_apart_17 rfl (lv_at hl 0 rfl) ?_
  obtain ⟨k8, v9, z7, hcq, hq⟩ := ct_tc1 hq
  refine ct_cali hU hM (vx_runV (As := []) (rest := []) ⟨hx, hb, hml, hown, hts⟩ (kc_X11_freeDiagram l D q vl u hU.1 hlt sa K r0 hr0 z5 z7 k8 v9 hcq) (cwV 0 hts (tw_gV2 wT_good (fun _ h => h) (wT_C _ xq_770) (wT_C _ xq_771) (wT_C _ xq_772) (wT_C _ xq_773) (wT_C _ xq_774)) rfl rfl rfl cdd_X11_freeDiagram ⟨(Nat.le_of_ble_eq_true rfl), (Nat.le_of_ble_eq_true rfl)⟩) (ct_preV hK hTh hM (co_X11 hr0) rfl) rfl rfl hl.1 rfl (lv_room (Nat.le_of_ble_eq_true rfl)) dcX11_apart_18 ⟨(Nat.le_of_ble_eq_true rfl), (Nat.le_of_ble_eq_true rfl)⟩) (fun E ce q9 H locs hk hE hM hce hcv hcl => ?_) (fun H locs hk hM => ?_)
  · have hq := tw_if hq hk
    obtain ⟨rfl, h9⟩ := Prod.mk.inj (Option.some.inj hq)
    obtain ⟨rfl, rfl⟩ := Prod.mk.inj h9
    exact ct_out hex hlocks hk hE hM hce hcv hcl hQQ (Nat.le_of_ble_eq_true rfl) (Nat.le_of_ble_eq_true rfl)
  have hq := tw_it hq hk
  refine lv_istore_n (lv' := [(3, .int v9), (0, .ref (u r0)), (1, .int x1), (2, .int x2)]) hx hb dcX11_apart_21 rfl hl (by decide) rfl (fun ls hl => ?_)
  refine lv_aload_n hx hb dcX11_apart_22 rfl (lv_at hl 1 rfl) ?_
  refine vgX11_27 hx hb hT hown hK hM hr0 dcX11_apart_23 ?_
  refine lv_aload_n hx hb dcX11_apart_26 rfl (lv_at hl 1 rfl) ?_
  refine vgX11_31 hx hb hT hown hK hM hr0 dcX11_apart_27 ?_
  obtain ⟨z10, hcq, hq⟩ := tw_cl0 hq
  refine uw_calv hU hM (va_runV (As := [.ref (u (r0 + 5000))]) (rest := []) ⟨hx, hb, hml, hown, hts⟩ (kc_X7_append l D q vl u hU.1 K (r0 + 4000) (r0 + 5000) (cs_X11_3 hr0) (cs_X11_4 hr0) z7 z10 hcq) (cwV 1 hts (tw_gV2 wT_good wT_C (wT_C _ xq_860) (wT_C _ xq_861) (wT_C _ xq_862) (wT_C _ xq_54) (wT_C _ xq_568)) rfl rfl rfl cdd_X7_append ⟨(Nat.le_of_ble_eq_true rfl), (Nat.le_of_ble_eq_true rfl)⟩) (cw_preV hK hM (co_X7 (cs_X11_3 hr0)) rfl) rfl rfl hl.1 rfl (lv_room (Nat.le_of_ble_eq_true rfl)) dcX11_apart_30 ⟨(Nat.le_of_ble_eq_true rfl), (Nat.le_of_ble_eq_true rfl)⟩) (fun H locs hM => ?_)
  refine lv_aload_n hx hb dcX11_apart_33 rfl (lv_at hl 1 rfl) ?_
  refine lv_iload_n hx hb dcX11_apart_34 rfl (lv_at hl 0 rfl) ?_
  obtain ⟨v12, z11, hcq, hq⟩ := tw_cl1 hq
  refine uw_cali hU hM (va_runV (As := [.int v9]) (rest := []) ⟨hx, hb, hml, hown, hts⟩ (kc_X11_keep l D q vl u hU.1 K r0 v9 hr0 z10 z11 v12 hcq) (cwV 1 hts (tw_gV2 wT_good wT_C (wT_C _ xq_781) (wT_C _ xq_782) (wT_C _ xq_783) (wT_C _ xq_773) (wT_C _ xq_784)) rfl rfl rfl cdd_X11_keep ⟨(Nat.le_of_ble_eq_true rfl), (Nat.le_of_ble_eq_true rfl)⟩) (cw_preV hK hM (co_X11 hr0) rfl) rfl rfl hl.1 rfl (lv_room (Nat.le_of_ble_eq_true rfl)) dcX11_apart_35 ⟨(Nat.le_of_ble_eq_true rfl), (Nat.le_of_ble_eq_true rfl)⟩) (fun H locs hM => ?_)
  exact ct_iret hx hb hr hlocks hM hq hQQ (Nat.le_of_ble_eq_true rfl) (Nat.le_of_ble_eq_true rfl) dcX11_apart_38
theorem dcX11_join_0 : decode cX11_join 0 = .ok (.aload_n 0, 1) := dw_at cX11_join_k0 (p := 0) rfl (by decide +kernel)
theorem dcX11_join_1 : decode cX11_join 1 = .ok (.iload_n 1, 1) := dw_at cX11_join_k0 (p := 1) rfl (by decide +kernel)
theorem dcX11_join_2 : decode cX11_join 2 = .ok (.invokevirtual 189, 3) := dw_at cX11_join_k0 (p := 2) rfl (by decide +kernel)
theorem dcX11_join_5 : decode cX11_join 5 = .ok (.iload_n 2, 1) := dw_at cX11_join_k0 (p := 5) rfl (by decide +kernel)
theorem dcX11_join_6 : decode cX11_join 6 = .ok (.ifCond .lt 18, 3) := dw_at cX11_join_k0 (p := 6) rfl (by decide +kernel)
theorem dcX11_join_9 : decode cX11_join 9 = .ok (.iload_n 2, 1) := dw_at cX11_join_k0 (p := 9) rfl (by decide +kernel)
theorem dcX11_join_10 : decode cX11_join 10 = .ok (.iconst 2, 1) := dw_at cX11_join_k0 (p := 10) rfl (by decide +kernel)
theorem dcX11_join_11 : decode cX11_join 11 = .ok (.aload_n 0, 1) := dw_at cX11_join_k0 (p := 11) rfl (by decide +kernel)
theorem dcX11_join_12 : decode cX11_join 12 = .ok (.getfield 14, 3) := dw_at cX11_join_k0 (p := 12) rfl (by decide +kernel)
theorem dcX11_join_15 : decode cX11_join 15 = .ok (.getfield 220, 3) := dw_at cX11_join_k0 (p := 15) rfl (by decide +kernel)
theorem dcX11_join_18 : decode cX11_join 18 = .ok (.iload_n 1, 1) := dw_at cX11_join_k0 (p := 18) rfl (by decide +kernel)
theorem dcX11_join_19 : decode cX11_join 19 = .ok (.baload, 1) := dw_at cX11_join_k0 (p := 19) rfl (by decide +kernel)
theorem dcX11_join_20 : decode cX11_join 20 = .ok (.imul, 1) := dw_at cX11_join_k0 (p := 20) rfl (by decide +kernel)
theorem dcX11_join_21 : decode cX11_join 21 = .ok (.if_icmp .lt 13, 3) := dw_at cX11_join_k0 (p := 21) rfl (by decide +kernel)
theorem dcX11_join_24 : decode cX11_join 24 = .ok (.new 164, 3) := dw_at cX11_join_k1 (p := 0) rfl (by decide +kernel)
theorem dcX11_join_27 : decode cX11_join 27 = .ok (.dup, 1) := dw_at cX11_join_k1 (p := 3) rfl (by decide +kernel)
theorem dcX11_join_28 : decode cX11_join 28 = .ok (.ldc 222, 2) := dw_at cX11_join_k1 (p := 4) rfl (by decide +kernel)
theorem dcX11_join_30 : decode cX11_join 30 = .ok (.invokespecial 168, 3) := dw_at cX11_join_k1 (p := 6) rfl (by decide +kernel)
theorem dcX11_join_33 : decode cX11_join 33 = .ok (.athrow, 1) := dw_at cX11_join_k1 (p := 9) rfl (by decide +kernel)
theorem dcX11_join_34 : decode cX11_join 34 = .ok (.aload_n 0, 1) := dw_at cX11_join_k1 (p := 10) rfl (by decide +kernel)
theorem dcX11_join_35 : decode cX11_join 35 = .ok (.iload_n 3, 1) := dw_at cX11_join_k1 (p := 11) rfl (by decide +kernel)
theorem dcX11_join_36 : decode cX11_join 36 = .ok (.invokevirtual 189, 3) := dw_at cX11_join_k1 (p := 12) rfl (by decide +kernel)
theorem dcX11_join_39 : decode cX11_join 39 = .ok (.iload 4, 2) := dw_at cX11_join_k1 (p := 15) rfl (by decide +kernel)
theorem dcX11_join_41 : decode cX11_join 41 = .ok (.ifCond .lt 19, 3) := dw_at cX11_join_k1 (p := 17) rfl (by decide +kernel)
theorem dcX11_join_44 : decode cX11_join 44 = .ok (.iload 4, 2) := dw_at cX11_join_k1 (p := 20) rfl (by decide +kernel)
theorem dcX11_join_46 : decode cX11_join 46 = .ok (.iconst 2, 1) := dw_at cX11_join_k1 (p := 22) rfl (by decide +kernel)
theorem dcX11_join_47 : decode cX11_join 47 = .ok (.aload_n 0, 1) := dw_at cX11_join_k1 (p := 23) rfl (by decide +kernel)
theorem dcX11_join_48 : decode cX11_join 48 = .ok (.getfield 14, 3) := dw_at cX11_join_k2 (p := 0) rfl (by decide +kernel)
theorem dcX11_join_51 : decode cX11_join 51 = .ok (.getfield 220, 3) := dw_at cX11_join_k2 (p := 3) rfl (by decide +kernel)
theorem dcX11_join_54 : decode cX11_join 54 = .ok (.iload_n 3, 1) := dw_at cX11_join_k2 (p := 6) rfl (by decide +kernel)
theorem dcX11_join_55 : decode cX11_join 55 = .ok (.baload, 1) := dw_at cX11_join_k2 (p := 7) rfl (by decide +kernel)
theorem dcX11_join_56 : decode cX11_join 56 = .ok (.imul, 1) := dw_at cX11_join_k2 (p := 8) rfl (by decide +kernel)
theorem dcX11_join_57 : decode cX11_join 57 = .ok (.if_icmp .lt 13, 3) := dw_at cX11_join_k2 (p := 9) rfl (by decide +kernel)
theorem dcX11_join_60 : decode cX11_join 60 = .ok (.new 164, 3) := dw_at cX11_join_k2 (p := 12) rfl (by decide +kernel)
theorem dcX11_join_63 : decode cX11_join 63 = .ok (.dup, 1) := dw_at cX11_join_k2 (p := 15) rfl (by decide +kernel)
theorem dcX11_join_64 : decode cX11_join 64 = .ok (.ldc 222, 2) := dw_at cX11_join_k2 (p := 16) rfl (by decide +kernel)
theorem dcX11_join_66 : decode cX11_join 66 = .ok (.invokespecial 168, 3) := dw_at cX11_join_k2 (p := 18) rfl (by decide +kernel)
theorem dcX11_join_69 : decode cX11_join 69 = .ok (.athrow, 1) := dw_at cX11_join_k2 (p := 21) rfl (by decide +kernel)
theorem dcX11_join_70 : decode cX11_join 70 = .ok (.aload_n 0, 1) := dw_at cX11_join_k2 (p := 22) rfl (by decide +kernel)
theorem dcX11_join_71 : decode cX11_join 71 = .ok (.iload_n 1, 1) := dw_at cX11_join_k2 (p := 23) rfl (by decide +kernel)
theorem dcX11_join_72 : decode cX11_join 72 = .ok (.iload_n 3, 1) := dw_at cX11_join_k3 (p := 0) rfl (by decide +kernel)
theorem dcX11_join_73 : decode cX11_join 73 = .ok (.iconst 1, 1) := dw_at cX11_join_k3 (p := 1) rfl (by decide +kernel)
theorem dcX11_join_74 : decode cX11_join 74 = .ok (.invokevirtual 268, 3) := dw_at cX11_join_k3 (p := 2) rfl (by decide +kernel)
theorem dcX11_join_77 : decode cX11_join 77 = .ok (.aload_n 0, 1) := dw_at cX11_join_k3 (p := 5) rfl (by decide +kernel)
theorem dcX11_join_78 : decode cX11_join 78 = .ok (.invokevirtual 133, 3) := dw_at cX11_join_k3 (p := 6) rfl (by decide +kernel)
theorem dcX11_join_81 : decode cX11_join 81 = .ok (.istore 5, 2) := dw_at cX11_join_k3 (p := 9) rfl (by decide +kernel)
theorem dcX11_join_83 : decode cX11_join 83 = .ok (.aload_n 0, 1) := dw_at cX11_join_k3 (p := 11) rfl (by decide +kernel)
theorem dcX11_join_84 : decode cX11_join 84 = .ok (.getfield 27, 3) := dw_at cX11_join_k3 (p := 12) rfl (by decide +kernel)
theorem dcX11_join_87 : decode cX11_join 87 = .ok (.getfield 226, 3) := dw_at cX11_join_k3 (p := 15) rfl (by decide +kernel)
theorem dcX11_join_90 : decode cX11_join 90 = .ok (.iload_n 2, 1) := dw_at cX11_join_k3 (p := 18) rfl (by decide +kernel)
theorem dcX11_join_91 : decode cX11_join 91 = .ok (.iaload, 1) := dw_at cX11_join_k3 (p := 19) rfl (by decide +kernel)
theorem dcX11_join_92 : decode cX11_join 92 = .ok (.istore 6, 2) := dw_at cX11_join_k3 (p := 20) rfl (by decide +kernel)
theorem dcX11_join_94 : decode cX11_join 94 = .ok (.iconst 2, 1) := dw_at cX11_join_k3 (p := 22) rfl (by decide +kernel)
theorem dcX11_join_95 : decode cX11_join 95 = .ok (.aload_n 0, 1) := dw_at cX11_join_k3 (p := 23) rfl (by decide +kernel)
theorem dcX11_join_96 : decode cX11_join 96 = .ok (.getfield 27, 3) := dw_at cX11_join_k4 (p := 0) rfl (by decide +kernel)
theorem dcX11_join_99 : decode cX11_join 99 = .ok (.getfield 198, 3) := dw_at cX11_join_k4 (p := 3) rfl (by decide +kernel)
theorem dcX11_join_102 : decode cX11_join 102 = .ok (.imul, 1) := dw_at cX11_join_k4 (p := 6) rfl (by decide +kernel)
theorem dcX11_join_103 : decode cX11_join 103 = .ok (.aload_n 0, 1) := dw_at cX11_join_k4 (p := 7) rfl (by decide +kernel)
theorem dcX11_join_104 : decode cX11_join 104 = .ok (.getfield 31, 3) := dw_at cX11_join_k4 (p := 8) rfl (by decide +kernel)
theorem dcX11_join_107 : decode cX11_join 107 = .ok (.getfield 226, 3) := dw_at cX11_join_k4 (p := 11) rfl (by decide +kernel)
theorem dcX11_join_110 : decode cX11_join 110 = .ok (.iload 4, 2) := dw_at cX11_join_k4 (p := 14) rfl (by decide +kernel)
theorem dcX11_join_112 : decode cX11_join 112 = .ok (.iaload, 1) := dw_at cX11_join_k4 (p := 16) rfl (by decide +kernel)
theorem dcX11_join_113 : decode cX11_join 113 = .ok (.iadd, 1) := dw_at cX11_join_k4 (p := 17) rfl (by decide +kernel)
theorem dcX11_join_114 : decode cX11_join 114 = .ok (.istore 7, 2) := dw_at cX11_join_k4 (p := 18) rfl (by decide +kernel)
theorem dcX11_join_116 : decode cX11_join 116 = .ok (.aload_n 0, 1) := dw_at cX11_join_k4 (p := 20) rfl (by decide +kernel)
theorem dcX11_join_117 : decode cX11_join 117 = .ok (.getfield 27, 3) := dw_at cX11_join_k4 (p := 21) rfl (by decide +kernel)
theorem dcX11_join_120 : decode cX11_join 120 = .ok (.aload_n 0, 1) := dw_at cX11_join_k5 (p := 0) rfl (by decide +kernel)
theorem dcX11_join_121 : decode cX11_join 121 = .ok (.getfield 31, 3) := dw_at cX11_join_k5 (p := 1) rfl (by decide +kernel)
theorem dcX11_join_124 : decode cX11_join 124 = .ok (.invokevirtual 272, 3) := dw_at cX11_join_k5 (p := 4) rfl (by decide +kernel)
theorem dcX11_join_127 : decode cX11_join 127 = .ok (.aload_n 0, 1) := dw_at cX11_join_k5 (p := 7) rfl (by decide +kernel)
theorem dcX11_join_128 : decode cX11_join 128 = .ok (.getfield 27, 3) := dw_at cX11_join_k5 (p := 8) rfl (by decide +kernel)
theorem dcX11_join_131 : decode cX11_join 131 = .ok (.iload 6, 2) := dw_at cX11_join_k5 (p := 11) rfl (by decide +kernel)
theorem dcX11_join_133 : decode cX11_join 133 = .ok (.iload 7, 2) := dw_at cX11_join_k5 (p := 13) rfl (by decide +kernel)
theorem dcX11_join_135 : decode cX11_join 135 = .ok (.invokevirtual 275, 3) := dw_at cX11_join_k5 (p := 15) rfl (by decide +kernel)
theorem dcX11_join_138 : decode cX11_join 138 = .ok (.aload_n 0, 1) := dw_at cX11_join_k5 (p := 18) rfl (by decide +kernel)
theorem dcX11_join_139 : decode cX11_join 139 = .ok (.iload 5, 2) := dw_at cX11_join_k5 (p := 19) rfl (by decide +kernel)
theorem dcX11_join_141 : decode cX11_join 141 = .ok (.invokevirtual 145, 3) := dw_at cX11_join_k5 (p := 21) rfl (by decide +kernel)
theorem dcX11_join_144 : decode cX11_join 144 = .ok (.ireturn, 1) := dw_at cX11_join_k5 (p := 24) rfl (by decide +kernel)
def cm_X11_join_0 (vl : Nat → Nat) (K : Nat) (x1 : Int32) (x2 : Int32) (x3 : Int32) (x4 : Int32) (r0 : Nat) (z : ow_MS) : Option (Nat × Int32 × ow_MS) :=
 tc0 (ce_X11_needDiagram vl K r0 x1 z) (fun k z => some (k, 0, z)) fun z1 => (if x2 < 0 then some (1, 0, z1)
 else crI (cX vl) z1 ((r0 + 1000) + 3) x1 fun v3 => (if x2 < (2 * v3) then tc0 (ce_X11_needDiagram vl K r0 x3 z1) (fun k z => some (k, 0, z)) fun z4 => (if x4 < 0 then some (1, 0, z4)
 else crI (cX vl) z4 ((r0 + 1000) + 3) x3 fun v6 => (if x4 < (2 * v6) then tc0 (ce_X11_loadBoth vl K r0 x1 x3 1 z4) (fun k z => some (k, 0, z)) fun z7 => tc1 (ce_X11_freeDiagram vl K r0 z7) (fun k z => some (k, 0, z)) fun v11 z9 => crI (cX vl) z9 ((r0 + 4000) + 4) x2 fun v12 => rdF z9 ((r0 + 4000) + 8) fun v13 => crI (cX vl) z9 ((r0 + 5000) + 4) x4 fun v14 => cs0 (ce_X7_append vl K (r0 + 4000) (r0 + 5000) z9) fun z15 => cs0 (ce_X7_exchange vl K (r0 + 4000) v12 ((2 * v13) + v14) z15) fun z16 => cs1 (ce_X11_keep vl K r0 v11 z16) fun v18 z17 => some (0, v18, z17)
 else some (1, 0, z4)))
 else some (1, 0, z1)))
def ce_X11_join (vl : Nat → Nat) (K : Nat) (r0 : Nat) (x1 : Int32) (x2 : Int32) (x3 : Int32) (x4 : Int32) (z : ow_MS) : Option (Nat × Int32 × ow_MS) := cm_X11_join_0 vl K x1 x2 x3 x4 r0 z
abbrev wc_X11_join : List Cond := .code yX11_join cX11_join 8 (some .int) :: wT
theorem cdd_X11_join : yX11_join.cls = RX11 ∧ yX11_join.cls ≠ "java/lang/invoke/MethodHandle" ∧ yX11_join.cls ≠ "java/lang/invoke/VarHandle" ∧ (parseMethodDescriptor yX11_join.desc).map (fun d => d.parameters.length) = some 4 := by decide +kernel
set_option maxHeartbeats 4000000 in
set_option maxRecDepth 100000 in
theorem kc_X11_join (l : Launch) (D : va_G) (q : Nat → ClassId) (vl u : Nat → Nat) (hU0 : tw_inj (cX vl) u) (hlt : l.stackTraces = false) (sa : Nat → Nat) (K : Nat) (r0 : Nat) (x1 : Int32) (x2 : Int32) (x3 : Int32) (x4 : Int32) (hr0 : cw_X11 r0) (z z1 : ow_MS) (k9 : Nat) (r : Int32) (hq : ce_X11_join vl K r0 x1 x2 x3 x4 z = some (k9, r, z1)) : vx_Met l yX11_join wc_X11_join ({ frames := 7, cells := 5, slots := 30, locals := 176 } : Room) (va_Pc [.ref (u r0), .int x1, .int x2, .int x3, .int x4] (cw_preT D q vl u sa z)) (va_Qi (fun x (_ : Unit) => k9 = 0 ∧ x = r) (fun _ t => va_P D vwCl (uw (cX vl) q u z1) t.heap) (tw_A (cX vl) u)) (ct_X D q vl u k9 z1) 5 30 (tw_A (cX vl) u) := by
  refine vx_ofW (cc := cX11_join) (maxL := 8) (ret := (some .int)) (by decide) rfl ?_
  intro p e s m args below meth c s₁ B hml hex hv
  obtain ⟨rfl, hP, hK, hTh⟩ := hv
  have hx := B.exec
  have hb := B.bytes
  have hr := B.returns
  have hts := atoms_spec (ws := wc_X11_join) B.pre
  have hT : ∀ w ∈ wC, w.before ([.ref (u r0), .int x1, .int x2, .int x3, .int x4] : List Value).toArray s = true := fun w h => hts w (List.mem_cons_of_mem _ (wT_C w h))
  have hown : s.vm.findClass RX11 = some m.cls := findClass_of_methodNamed B.named
  have hlocks := B.notSynchronized
  have hU : uw_inj (cX vl) u (tw_A (cX vl) u) := ⟨hU0, fun h hh => ⟨h, hh, rfl⟩⟩
  have hM : uw_M D vwCl (cX vl) q (tw_A (cX vl) u) s.heap u z s.heap [] := ⟨hP, va_S.rf⟩
  have hl := lv_entry ([.ref (u r0), .int x1, .int x2, .int x3, .int x4]) (n := 8) (Nat.le_of_ble_eq_true rfl)
  rw [lg_entry_eq]
  generalize (lg_sl ([.ref (u r0), .int x1, .int x2, .int x3, .int x4]) ++ List.replicate (8 - (lg_sl ([.ref (u r0), .int x1, .int x2, .int x3, .int x4])).length) Slot.unset).toArray = ls at hl ⊢
  have hl : lv_has ls 8 [(0, .ref (u r0)), (1, .int x1), (2, .int x2), (3, .int x3), (4, .int x4)] := hl
  refine ow_named (fun QQ hQQ => ?_)
  generalize ([.ref (u r0), .int x1, .int x2, .int x3, .int x4] : List Value).toArray = args at hts hT hQQ ⊢
  have hq : cm_X11_join_0 vl K x1 x2 x3 x4 r0 z = some (k9, r, z1) := hq
  unfold cm_X11_join_0 at hq
  suffices key : ∀ (H : Heap) (locs : List Loc), uw_M D vwCl (cX vl) q (tw_A (cX vl) u) s.heap u z H locs → W p l e ({ frames := 7, cells := 5, slots := 30, locals := 176 } : Room) s m args below meth c H locs 0 0 QQ (F0 m 0 ls []) from key s.heap [] hM
  intro H locs hM
  refine lv_aload_n hx hb dcX11_join_0 rfl (lv_at hl 0 rfl) ?_
  refine lv_iload_n hx hb dcX11_join_1 rfl (lv_at hl 1 rfl) ?_
  obtain ⟨k2, z1, hcq, hq⟩ := ct_tc0 hq
  refine ct_calv hU hM (vx_runV (As := [.int x1]) (rest := []) ⟨hx, hb, hml, hown, hts⟩ (kc_X11_needDiagram l D q vl u hU.1 hlt sa K r0 x1 hr0 z z1 k2 hcq) (cwV 1 hts (tw_gV2 wT_good (fun _ h => h) (wT_C _ xq_818) (wT_C _ xq_819) (wT_C _ xq_820) (wT_C _ xq_773) (wT_C _ xq_807)) rfl rfl rfl cdd_X11_needDiagram ⟨(Nat.le_of_ble_eq_true rfl), (Nat.le_of_ble_eq_true rfl)⟩) (ct_preV hK hTh hM (co_X11 hr0) rfl) rfl rfl hl.1 rfl (lv_room (Nat.le_of_ble_eq_true rfl)) dcX11_join_2 ⟨(Nat.le_of_ble_eq_true rfl), (Nat.le_of_ble_eq_true rfl)⟩) (fun E ce q9 H locs hk hE hM hce hcv hcl => ?_) (fun H locs hk hM => ?_)
  · have hq := tw_if hq hk
    obtain ⟨rfl, h9⟩ := Prod.mk.inj (Option.some.inj hq)
    obtain ⟨rfl, rfl⟩ := Prod.mk.inj h9
    exact ct_out hex hlocks hk hE hM hce hcv hcl hQQ (Nat.le_of_ble_eq_true rfl) (Nat.le_of_ble_eq_true rfl)
  have hq := tw_it hq hk
  refine lv_iload_n hx hb dcX11_join_5 rfl (lv_at hl 2 rfl) ?_
  refine lv_if_lt (tgt := 24) hx hb dcX11_join_6 (by decide) (fun hc => ?_) (fun hc => ?_)
  · have hq := tw_it hq hc
    obtain ⟨rfl, h9⟩ := Prod.mk.inj (Option.some.inj hq)
    obtain ⟨rfl, rfl⟩ := Prod.mk.inj h9
    exact ct_throw (k := 1) (text := "no such visit") (cls := "java/lang/IndexOutOfBoundsException") hx hb hlt hown hex hlocks (by rw [hml]; exact hl.1.symm) hTh (List.mem_of_getElem? (i := 8) rfl) rfl (by decide) (by decide +kernel) (hts _ (List.mem_cons_of_mem _ wT_k1)) (hts _ (List.mem_cons_of_mem _ wT_i1)) (fun w h => hts w (List.mem_cons_of_mem _ (wT_1 w h))) th9_1 tg9_1 hM dcX11_join_24 dcX11_join_27 dcX11_join_28 dcX11_join_30 dcX11_join_33 hQQ (Nat.le_of_ble_eq_true rfl) (Nat.le_of_ble_eq_true rfl) (Nat.le_of_ble_eq_true rfl) (Nat.le_of_ble_eq_true rfl) (Nat.le_of_ble_eq_true rfl) (Nat.le_of_ble_eq_true rfl)
  · have hq := tw_if hq hc
    refine lv_iload_n hx hb dcX11_join_9 rfl (lv_at hl 2 rfl) ?_
    refine lv_iconst (v := 2) hx hb dcX11_join_10 (by decide) ?_
    refine lv_aload_n hx hb dcX11_join_11 rfl (lv_at hl 0 rfl) ?_
    refine vgX11_14 hx hb hT hown hK hM hr0 dcX11_join_12 ?_
    refine vgX11_220 hx hb hT hown hK hM (cs_X11_0 hr0) dcX11_join_15 ?_
    refine lv_iload_n hx hb dcX11_join_18 rfl (lv_at hl 1 rfl) ?_
    refine uw_bald cX_ok hx hb hK hM (cr_X3_2 (cs_X11_0 hr0)) hq dcX11_join_19 (fun v3 hq => ?_)
    refine lv_imul hx hb dcX11_join_20 ?_
    refine lv_icmp_lt (tgt := 34) hx hb dcX11_join_21 (by decide) (fun hc => ?_) (fun hc => ?_)
    · have hq := tw_it hq hc
      refine lv_aload_n hx hb dcX11_join_34 rfl (lv_at hl 0 rfl) ?_
      refine lv_iload_n hx hb dcX11_join_35 rfl (lv_at hl 3 rfl) ?_
      obtain ⟨k5, z4, hcq, hq⟩ := ct_tc0 hq
      refine ct_calv hU hM (vx_runV (As := [.int x3]) (rest := []) ⟨hx, hb, hml, hown, hts⟩ (kc_X11_needDiagram l D q vl u hU.1 hlt sa K r0 x3 hr0 z1 z4 k5 hcq) (cwV 1 hts (tw_gV2 wT_good (fun _ h => h) (wT_C _ xq_818) (wT_C _ xq_819) (wT_C _ xq_820) (wT_C _ xq_773) (wT_C _ xq_807)) rfl rfl rfl cdd_X11_needDiagram ⟨(Nat.le_of_ble_eq_true rfl), (Nat.le_of_ble_eq_true rfl)⟩) (ct_preV hK hTh hM (co_X11 hr0) rfl) rfl rfl hl.1 rfl (lv_room (Nat.le_of_ble_eq_true rfl)) dcX11_join_36 ⟨(Nat.le_of_ble_eq_true rfl), (Nat.le_of_ble_eq_true rfl)⟩) (fun E ce q9 H locs hk hE hM hce hcv hcl => ?_) (fun H locs hk hM => ?_)
      · have hq := tw_if hq hk
        obtain ⟨rfl, h9⟩ := Prod.mk.inj (Option.some.inj hq)
        obtain ⟨rfl, rfl⟩ := Prod.mk.inj h9
        exact ct_out hex hlocks hk hE hM hce hcv hcl hQQ (Nat.le_of_ble_eq_true rfl) (Nat.le_of_ble_eq_true rfl)
      have hq := tw_it hq hk
      refine lv_iload hx hb dcX11_join_39 (lv_at hl 4 rfl) ?_
      refine lv_if_lt (tgt := 60) hx hb dcX11_join_41 (by decide) (fun hc => ?_) (fun hc => ?_)
      · have hq := tw_it hq hc
        obtain ⟨rfl, h9⟩ := Prod.mk.inj (Option.some.inj hq)
        obtain ⟨rfl, rfl⟩ := Prod.mk.inj h9
        exact ct_throw (k := 1) (text := "no such visit") (cls := "java/lang/IndexOutOfBoundsException") hx hb hlt hown hex hlocks (by rw [hml]; exact hl.1.symm) hTh (List.mem_of_getElem? (i := 8) rfl) rfl (by decide) (by decide +kernel) (hts _ (List.mem_cons_of_mem _ wT_k1)) (hts _ (List.mem_cons_of_mem _ wT_i1)) (fun w h => hts w (List.mem_cons_of_mem _ (wT_1 w h))) th9_1 tg9_1 hM dcX11_join_60 dcX11_join_63 dcX11_join_64 dcX11_join_66 dcX11_join_69 hQQ (Nat.le_of_ble_eq_true rfl) (Nat.le_of_ble_eq_true rfl) (Nat.le_of_ble_eq_true rfl) (Nat.le_of_ble_eq_true rfl) (Nat.le_of_ble_eq_true rfl) (Nat.le_of_ble_eq_true rfl)
      · have hq := tw_if hq hc
        refine lv_iload hx hb dcX11_join_44 (lv_at hl 4 rfl) ?_
        refine lv_iconst (v := 2) hx hb dcX11_join_46 (by decide) ?_
        refine lv_aload_n hx hb dcX11_join_47 rfl (lv_at hl 0 rfl) ?_
        refine vgX11_14 hx hb hT hown hK hM hr0 dcX11_join_48 ?_
        refine vgX11_220 hx hb hT hown hK hM (cs_X11_0 hr0) dcX11_join_51 ?_
        refine lv_iload_n hx hb dcX11_join_54 rfl (lv_at hl 3 rfl) ?_
        refine uw_bald cX_ok hx hb hK hM (cr_X3_2 (cs_X11_0 hr0)) hq dcX11_join_55 (fun v6 hq => ?_)
        refine lv_imul hx hb dcX11_join_56 ?_
        refine lv_icmp_lt (tgt := 70) hx hb dcX11_join_57 (by decide) (fun hc => ?_) (fun hc => ?_)
        · have hq := tw_it hq hc
          refine lv_aload_n hx hb dcX11_join_70 rfl (lv_at hl 0 rfl) ?_
          refine lv_iload_n hx hb dcX11_join_71 rfl (lv_at hl 1 rfl) ?_
          refine lv_iload_n hx hb dcX11_join_72 rfl (lv_at hl 3 rfl) ?_
          refine lv_iconst (v := 1) hx hb dcX11_join_73 (by decide) ?_
          obtain ⟨k8, z7, hcq, hq⟩ := ct_tc0 hq
          refine ct_calv hU hM (vx_runV (As := [.int x1, .int x3, .int 1]) (rest := []) ⟨hx, hb, hml, hown, hts⟩ (kc_X11_loadBoth l D q vl u hU.1 hlt sa K r0 x1 x3 1 hr0 z4 z7 k8 hcq) (cwV 3 hts (tw_gV2 wT_good (fun _ h => h) (wT_C _ xq_856) (wT_C _ xq_857) (wT_C _ xq_858) (wT_C _ xq_773) (wT_C _ xq_859)) rfl rfl rfl cdd_X11_loadBoth ⟨(Nat.le_of_ble_eq_true rfl), (Nat.le_of_ble_eq_true rfl)⟩) (ct_preV hK hTh hM (co_X11 hr0) rfl) rfl rfl hl.1 rfl (lv_room (Nat.le_of_ble_eq_true rfl)) dcX11_join_74 ⟨(Nat.le_of_ble_eq_true rfl), (Nat.le_of_ble_eq_true rfl)⟩) (fun E ce q9 H locs hk hE hM hce hcv hcl => ?_) (fun H locs hk hM => ?_)
          · have hq := tw_if hq hk
            obtain ⟨rfl, h9⟩ := Prod.mk.inj (Option.some.inj hq)
            obtain ⟨rfl, rfl⟩ := Prod.mk.inj h9
            exact ct_out hex hlocks hk hE hM hce hcv hcl hQQ (Nat.le_of_ble_eq_true rfl) (Nat.le_of_ble_eq_true rfl)
          have hq := tw_it hq hk
          refine lv_aload_n hx hb dcX11_join_77 rfl (lv_at hl 0 rfl) ?_
          obtain ⟨k10, v11, z9, hcq, hq⟩ := ct_tc1 hq
          refine ct_cali hU hM (vx_runV (As := []) (rest := []) ⟨hx, hb, hml, hown, hts⟩ (kc_X11_freeDiagram l D q vl u hU.1 hlt sa K r0 hr0 z7 z9 k10 v11 hcq) (cwV 0 hts (tw_gV2 wT_good (fun _ h => h) (wT_C _ xq_770) (wT_C _ xq_771) (wT_C _ xq_772) (wT_C _ xq_773) (wT_C _ xq_774)) rfl rfl rfl cdd_X11_freeDiagram ⟨(Nat.le_of_ble_eq_true rfl), (Nat.le_of_ble_eq_true rfl)⟩) (ct_preV hK hTh hM (co_X11 hr0) rfl) rfl rfl hl.1 rfl (lv_room (Nat.le_of_ble_eq_true rfl)) dcX11_join_78 ⟨(Nat.le_of_ble_eq_true rfl), (Nat.le_of_ble_eq_true rfl)⟩) (fun E ce q9 H locs hk hE hM hce hcv hcl => ?_) (fun H locs hk hM => ?_)
          · have hq := tw_if hq hk
            obtain ⟨rfl, h9⟩ := Prod.mk.inj (Option.some.inj hq)
            obtain ⟨rfl, rfl⟩ := Prod.mk.inj h9
            exact ct_out hex hlocks hk hE hM hce hcv hcl hQQ (Nat.le_of_ble_eq_true rfl) (Nat.le_of_ble_eq_true rfl)
          have hq := tw_it hq hk
          refine lv_istore (lv' := [(5, .int v11), (0, .ref (u r0)), (1, .int x1), (2, .int x2), (3, .int x3), (4, .int x4)]) hx hb dcX11_join_81 hl (by decide) rfl (fun ls hl => ?_)
          refine lv_aload_n hx hb dcX11_join_83 rfl (lv_at hl 1 rfl) ?_
          refine vgX11_27 hx hb hT hown hK hM hr0 dcX11_join_84 ?_
          refine vgX11_226 hx hb hT hown hK hM (cs_X11_3 hr0) dcX11_join_87 ?_
          refine lv_iload_n hx hb dcX11_join_90 rfl (lv_at hl 3 rfl) ?_
          refine uw_iald cX_ok hx hb hK hM (cr_X7_3 (cs_X11_3 hr0)) hq dcX11_join_91 (fun v12 hq => ?_)
          refine lv_istore (lv' := [(6, .int v12), (5, .int v11), (0, .ref (u r0)), (1, .int x1), (2, .int x2), (3, .int x3), (4, .int x4)]) hx hb dcX11_join_92 hl (by decide) rfl (fun ls hl => ?_)
          refine lv_iconst (v := 2) hx hb dcX11_join_94 (by decide) ?_
          refine lv_aload_n hx hb dcX11_join_95 rfl (lv_at hl 2 rfl) ?_
          refine vgX11_27 hx hb hT hown hK hM hr0 dcX11_join_96 ?_
          refine vgX11_198 hx hb hT hown hK hM (cs_X11_3 hr0) hq dcX11_join_99 (fun v13 hq => ?_)
          refine lv_imul hx hb dcX11_join_102 ?_
          refine lv_aload_n hx hb dcX11_join_103 rfl (lv_at hl 2 rfl) ?_
          refine vgX11_31 hx hb hT hown hK hM hr0 dcX11_join_104 ?_
          refine vgX11_226 hx hb hT hown hK hM (cs_X11_4 hr0) dcX11_join_107 ?_
          refine lv_iload hx hb dcX11_join_110 (lv_at hl 6 rfl) ?_
          refine uw_iald cX_ok hx hb hK hM (cr_X7_3 (cs_X11_4 hr0)) hq dcX11_join_112 (fun v14 hq => ?_)
          refine lv_iadd hx hb dcX11_join_113 ?_
          refine lv_istore (lv' := [(7, .int ((2 * v13) + v14)), (6, .int v12), (5, .int v11), (0, .ref (u r0)), (1, .int x1), (2, .int x2), (3, .int x3), (4, .int x4)]) hx hb dcX11_join_114 hl (by decide) rfl (fun ls hl => ?_)
          refine lv_aload_n hx hb dcX11_join_116 rfl (lv_at hl 3 rfl) ?_
          refine vgX11_27 hx hb hT hown hK hM hr0 dcX11_join_117 ?_
          refine lv_aload_n hx hb dcX11_join_120 rfl (lv_at hl 3 rfl) ?_
          refine vgX11_31 hx hb hT hown hK hM hr0 dcX11_join_121 ?_
          obtain ⟨z15, hcq, hq⟩ := tw_cl0 hq
          refine uw_calv hU hM (va_runV (As := [.ref (u (r0 + 5000))]) (rest := []) ⟨hx, hb, hml, hown, hts⟩ (kc_X7_append l D q vl u hU.1 K (r0 + 4000) (r0 + 5000) (cs_X11_3 hr0) (cs_X11_4 hr0) z9 z15 hcq) (cwV 1 hts (tw_gV2 wT_good wT_C (wT_C _ xq_860) (wT_C _ xq_861) (wT_C _ xq_862) (wT_C _ xq_54) (wT_C _ xq_568)) rfl rfl rfl cdd_X7_append ⟨(Nat.le_of_ble_eq_true rfl), (Nat.le_of_ble_eq_true rfl)⟩) (cw_preV hK hM (co_X7 (cs_X11_3 hr0)) rfl) rfl rfl hl.1 rfl (lv_room (Nat.le_of_ble_eq_true rfl)) dcX11_join_124 ⟨(Nat.le_of_ble_eq_true rfl), (Nat.le_of_ble_eq_true rfl)⟩) (fun H locs hM => ?_)
          refine lv_aload_n hx hb dcX11_join_127 rfl (lv_at hl 3 rfl) ?_
          refine vgX11_27 hx hb hT hown hK hM hr0 dcX11_join_128 ?_
          refine lv_iload hx hb dcX11_join_131 (lv_at hl 1 rfl) ?_
          refine lv_iload hx hb dcX11_join_133 (lv_at hl 0 rfl) ?_
          obtain ⟨z16, hcq, hq⟩ := tw_cl0 hq
          refine uw_calv hU hM (va_runV (As := [.int v12, .int ((2 * v13) + v14)]) (rest := []) ⟨hx, hb, hml, hown, hts⟩ (kc_X7_exchange l D q vl u hU.1 K (r0 + 4000) v12 ((2 * v13) + v14) (cs_X11_3 hr0) z15 z16 hcq) (cwV 2 hts (tw_gV2 wT_good wT_C (wT_C _ xq_864) (wT_C _ xq_571) (wT_C _ xq_572) (wT_C _ xq_54) (wT_C _ xq_569)) rfl rfl rfl cdd_X7_exchange ⟨(Nat.le_of_ble_eq_true rfl), (Nat.le_of_ble_eq_true rfl)⟩) (cw_preV hK hM (co_X7 (cs_X11_3 hr0)) rfl) rfl rfl hl.1 rfl (lv_room (Nat.le_of_ble_eq_true rfl)) dcX11_join_135 ⟨(Nat.le_of_ble_eq_true rfl), (Nat.le_of_ble_eq_true rfl)⟩) (fun H locs hM => ?_)
          refine lv_aload_n hx hb dcX11_join_138 rfl (lv_at hl 3 rfl) ?_
          refine lv_iload hx hb dcX11_join_139 (lv_at hl 2 rfl) ?_
          obtain ⟨v18, z17, hcq, hq⟩ := tw_cl1 hq
          refine uw_cali hU hM (va_runV (As := [.int v11]) (rest := []) ⟨hx, hb, hml, hown, hts⟩ (kc_X11_keep l D q vl u hU.1 K r0 v11 hr0 z16 z17 v18 hcq) (cwV 1 hts (tw_gV2 wT_good wT_C (wT_C _ xq_781) (wT_C _ xq_782) (wT_C _ xq_783) (wT_C _ xq_773) (wT_C _ xq_784)) rfl rfl rfl cdd_X11_keep ⟨(Nat.le_of_ble_eq_true rfl), (Nat.le_of_ble_eq_true rfl)⟩) (cw_preV hK hM (co_X11 hr0) rfl) rfl rfl hl.1 rfl (lv_room (Nat.le_of_ble_eq_true rfl)) dcX11_join_141 ⟨(Nat.le_of_ble_eq_true rfl), (Nat.le_of_ble_eq_true rfl)⟩) (fun H locs hM => ?_)
          exact ct_iret hx hb hr hlocks hM hq hQQ (Nat.le_of_ble_eq_true rfl) (Nat.le_of_ble_eq_true rfl) dcX11_join_144
        · have hq := tw_if hq hc
          obtain ⟨rfl, h9⟩ := Prod.mk.inj (Option.some.inj hq)
          obtain ⟨rfl, rfl⟩ := Prod.mk.inj h9
          exact ct_throw (k := 1) (text := "no such visit") (cls := "java/lang/IndexOutOfBoundsException") hx hb hlt hown hex hlocks (by rw [hml]; exact hl.1.symm) hTh (List.mem_of_getElem? (i := 8) rfl) rfl (by decide) (by decide +kernel) (hts _ (List.mem_cons_of_mem _ wT_k1)) (hts _ (List.mem_cons_of_mem _ wT_i1)) (fun w h => hts w (List.mem_cons_of_mem _ (wT_1 w h))) th9_1 tg9_1 hM dcX11_join_60 dcX11_join_63 dcX11_join_64 dcX11_join_66 dcX11_join_69 hQQ (Nat.le_of_ble_eq_true rfl) (Nat.le_of_ble_eq_true rfl) (Nat.le_of_ble_eq_true rfl) (Nat.le_of_ble_eq_true rfl) (Nat.le_of_ble_eq_true rfl) (Nat.le_of_ble_eq_true rfl)
    · have hq := tw_if hq hc
      obtain ⟨rfl, h9⟩ := Prod.mk.inj (Option.some.inj hq)
      obtain ⟨rfl, rfl⟩ := Prod.mk.inj h9
      exact ct_throw (k := 1) (text := "no such visit") (cls := "java/lang/IndexOutOfBoundsException") hx hb hlt hown hex hlocks (by rw [hml]; exact hl.1.symm) hTh (List.mem_of_getElem? (i := 8) rfl) rfl (by decide) (by decide +kernel) (hts _ (List.mem_cons_of_mem _ wT_k1)) (hts _ (List.mem_cons_of_mem _ wT_i1)) (fun w h => hts w (List.mem_cons_of_mem _ (wT_1 w h))) th9_1 tg9_1 hM dcX11_join_24 dcX11_join_27 dcX11_join_28 dcX11_join_30 dcX11_join_33 hQQ (Nat.le_of_ble_eq_true rfl) (Nat.le_of_ble_eq_true rfl) (Nat.le_of_ble_eq_true rfl) (Nat.le_of_ble_eq_true rfl) (Nat.le_of_ble_eq_true rfl) (Nat.le_of_ble_eq_true rfl)
theorem dcX11_moves_0 : decode cX11_moves 0 = .ok (.aload_n 0, 1) := dw_at cX11_moves_k0 (p := 0) rfl (by decide +kernel)
theorem dcX11_moves_1 : decode cX11_moves 1 = .ok (.iload_n 1, 1) := dw_at cX11_moves_k0 (p := 1) rfl (by decide +kernel)
theorem dcX11_moves_2 : decode cX11_moves 2 = .ok (.invokevirtual 189, 3) := dw_at cX11_moves_k0 (p := 2) rfl (by decide +kernel)
theorem dcX11_moves_5 : decode cX11_moves 5 = .ok (.iload_n 2, 1) := dw_at cX11_moves_k0 (p := 5) rfl (by decide +kernel)
theorem dcX11_moves_6 : decode cX11_moves 6 = .ok (.ifCond .lt 8, 3) := dw_at cX11_moves_k0 (p := 6) rfl (by decide +kernel)
theorem dcX11_moves_9 : decode cX11_moves 9 = .ok (.iload_n 2, 1) := dw_at cX11_moves_k0 (p := 9) rfl (by decide +kernel)
theorem dcX11_moves_10 : decode cX11_moves 10 = .ok (.iconst 5, 1) := dw_at cX11_moves_k0 (p := 10) rfl (by decide +kernel)
theorem dcX11_moves_11 : decode cX11_moves 11 = .ok (.if_icmp .lt 14, 3) := dw_at cX11_moves_k0 (p := 11) rfl (by decide +kernel)
theorem dcX11_moves_14 : decode cX11_moves 14 = .ok (.new 128, 3) := dw_at cX11_moves_k0 (p := 14) rfl (by decide +kernel)
theorem dcX11_moves_17 : decode cX11_moves 17 = .ok (.dup, 1) := dw_at cX11_moves_k0 (p := 17) rfl (by decide +kernel)
theorem dcX11_moves_18 : decode cX11_moves 18 = .ok (.ldc_w 281, 3) := dw_at cX11_moves_k0 (p := 18) rfl (by decide +kernel)
theorem dcX11_moves_21 : decode cX11_moves 21 = .ok (.invokespecial 132, 3) := dw_at cX11_moves_k0 (p := 21) rfl (by decide +kernel)
theorem dcX11_moves_24 : decode cX11_moves 24 = .ok (.athrow, 1) := dw_at cX11_moves_k1 (p := 0) rfl (by decide +kernel)
theorem dcX11_moves_25 : decode cX11_moves 25 = .ok (.aload_n 0, 1) := dw_at cX11_moves_k1 (p := 1) rfl (by decide +kernel)
theorem dcX11_moves_26 : decode cX11_moves 26 = .ok (.getfield 18, 3) := dw_at cX11_moves_k1 (p := 2) rfl (by decide +kernel)
theorem dcX11_moves_29 : decode cX11_moves 29 = .ok (.iconst 0, 1) := dw_at cX11_moves_k1 (p := 5) rfl (by decide +kernel)
theorem dcX11_moves_30 : decode cX11_moves 30 = .ok (.putfield 283, 3) := dw_at cX11_moves_k1 (p := 6) rfl (by decide +kernel)
theorem dcX11_moves_33 : decode cX11_moves 33 = .ok (.aload_n 0, 1) := dw_at cX11_moves_k1 (p := 9) rfl (by decide +kernel)
theorem dcX11_moves_34 : decode cX11_moves 34 = .ok (.getfield 58, 3) := dw_at cX11_moves_k1 (p := 10) rfl (by decide +kernel)
theorem dcX11_moves_37 : decode cX11_moves 37 = .ok (.aload_n 0, 1) := dw_at cX11_moves_k1 (p := 13) rfl (by decide +kernel)
theorem dcX11_moves_38 : decode cX11_moves 38 = .ok (.getfield 14, 3) := dw_at cX11_moves_k1 (p := 14) rfl (by decide +kernel)
theorem dcX11_moves_41 : decode cX11_moves 41 = .ok (.iload_n 1, 1) := dw_at cX11_moves_k1 (p := 17) rfl (by decide +kernel)
theorem dcX11_moves_42 : decode cX11_moves 42 = .ok (.iload_n 2, 1) := dw_at cX11_moves_k1 (p := 18) rfl (by decide +kernel)
theorem dcX11_moves_43 : decode cX11_moves 43 = .ok (.aload_n 0, 1) := dw_at cX11_moves_k1 (p := 19) rfl (by decide +kernel)
theorem dcX11_moves_44 : decode cX11_moves 44 = .ok (.getfield 18, 3) := dw_at cX11_moves_k1 (p := 20) rfl (by decide +kernel)
theorem dcX11_moves_47 : decode cX11_moves 47 = .ok (.invokevirtual 286, 3) := dw_at cX11_moves_k1 (p := 23) rfl (by decide +kernel)
theorem dcX11_moves_50 : decode cX11_moves 50 = .ok (.aload_n 0, 1) := dw_at cX11_moves_k2 (p := 0) rfl (by decide +kernel)
theorem dcX11_moves_51 : decode cX11_moves 51 = .ok (.getfield 18, 3) := dw_at cX11_moves_k2 (p := 1) rfl (by decide +kernel)
theorem dcX11_moves_54 : decode cX11_moves 54 = .ok (.getfield 283, 3) := dw_at cX11_moves_k2 (p := 4) rfl (by decide +kernel)
theorem dcX11_moves_57 : decode cX11_moves 57 = .ok (.ireturn, 1) := dw_at cX11_moves_k2 (p := 7) rfl (by decide +kernel)
def cm_X11_moves_0 (vl : Nat → Nat) (K : Nat) (x1 : Int32) (x2 : Int32) (r0 : Nat) (z : ow_MS) : Option (Nat × Int32 × ow_MS) :=
 tc0 (ce_X11_needDiagram vl K r0 x1 z) (fun k z => some (k, 0, z)) fun z1 => (if x2 < 0 then some (2, 0, z1)
 else (if x2 < 5 then wrF z1 ((r0 + 2000) + 5) 0 fun z3 => cs0 (ce_X6_collect vl K (r0 + 12000) (r0 + 1000) x1 x2 (r0 + 2000) z3) fun z4 => rdF z4 ((r0 + 2000) + 5) fun v5 => some (0, v5, z4)
 else some (2, 0, z1)))
def ce_X11_moves (vl : Nat → Nat) (K : Nat) (r0 : Nat) (x1 : Int32) (x2 : Int32) (z : ow_MS) : Option (Nat × Int32 × ow_MS) := cm_X11_moves_0 vl K x1 x2 r0 z
abbrev wc_X11_moves : List Cond := .code yX11_moves cX11_moves 3 (some .int) :: wT
theorem cdd_X11_moves : yX11_moves.cls = RX11 ∧ yX11_moves.cls ≠ "java/lang/invoke/MethodHandle" ∧ yX11_moves.cls ≠ "java/lang/invoke/VarHandle" ∧ (parseMethodDescriptor yX11_moves.desc).map (fun d => d.parameters.length) = some 2 := by decide +kernel
set_option maxHeartbeats 4000000 in
set_option maxRecDepth 100000 in
theorem kc_X11_moves (l : Launch) (D : va_G) (q : Nat → ClassId) (vl u : Nat → Nat) (hU0 : tw_inj (cX vl) u) (hlt : l.stackTraces = false) (sa : Nat → Nat) (K : Nat) (r0 : Nat) (x1 : Int32) (x2 : Int32) (hr0 : cw_X11 r0) (z z1 : ow_MS) (k9 : Nat) (r : Int32) (hq : ce_X11_moves vl K r0 x1 x2 z = some (k9, r, z1)) : vx_Met l yX11_moves wc_X11_moves ({ frames := 7, cells := 2, slots := 12, locals := 181 } : Room) (va_Pc [.ref (u r0), .int x1, .int x2] (cw_preT D q vl u sa z)) (va_Qi (fun x (_ : Unit) => k9 = 0 ∧ x = r) (fun _ t => va_P D vwCl (uw (cX vl) q u z1) t.heap) (tw_A (cX vl) u)) (ct_X D q vl u k9 z1) 2 12 (tw_A (cX vl) u) := by
  refine vx_ofW (cc := cX11_moves) (maxL := 3) (ret := (some .int)) (by decide) rfl ?_
  intro p e s m args below meth c s₁ B hml hex hv
  obtain ⟨rfl, hP, hK, hTh⟩ := hv
  have hx := B.exec
  have hb := B.bytes
  have hr := B.returns
  have hts := atoms_spec (ws := wc_X11_moves) B.pre
  have hT : ∀ w ∈ wC, w.before ([.ref (u r0), .int x1, .int x2] : List Value).toArray s = true := fun w h => hts w (List.mem_cons_of_mem _ (wT_C w h))
  have hown : s.vm.findClass RX11 = some m.cls := findClass_of_methodNamed B.named
  have hlocks := B.notSynchronized
  have hU : uw_inj (cX vl) u (tw_A (cX vl) u) := ⟨hU0, fun h hh => ⟨h, hh, rfl⟩⟩
  have hM : uw_M D vwCl (cX vl) q (tw_A (cX vl) u) s.heap u z s.heap [] := ⟨hP, va_S.rf⟩
  have hl := lv_entry ([.ref (u r0), .int x1, .int x2]) (n := 3) (Nat.le_of_ble_eq_true rfl)
  rw [lg_entry_eq]
  generalize (lg_sl ([.ref (u r0), .int x1, .int x2]) ++ List.replicate (3 - (lg_sl ([.ref (u r0), .int x1, .int x2])).length) Slot.unset).toArray = ls at hl ⊢
  have hl : lv_has ls 3 [(0, .ref (u r0)), (1, .int x1), (2, .int x2)] := hl
  refine ow_named (fun QQ hQQ => ?_)
  generalize ([.ref (u r0), .int x1, .int x2] : List Value).toArray = args at hts hT hQQ ⊢
  have hq : cm_X11_moves_0 vl K x1 x2 r0 z = some (k9, r, z1) := hq
  unfold cm_X11_moves_0 at hq
  suffices key : ∀ (H : Heap) (locs : List Loc), uw_M D vwCl (cX vl) q (tw_A (cX vl) u) s.heap u z H locs → W p l e ({ frames := 7, cells := 2, slots := 12, locals := 181 } : Room) s m args below meth c H locs 0 0 QQ (F0 m 0 ls []) from key s.heap [] hM
  intro H locs hM
  refine lv_aload_n hx hb dcX11_moves_0 rfl (lv_at hl 0 rfl) ?_
  refine lv_iload_n hx hb dcX11_moves_1 rfl (lv_at hl 1 rfl) ?_
  obtain ⟨k2, z1, hcq, hq⟩ := ct_tc0 hq
  refine ct_calv hU hM (vx_runV (As := [.int x1]) (rest := []) ⟨hx, hb, hml, hown, hts⟩ (kc_X11_needDiagram l D q vl u hU.1 hlt sa K r0 x1 hr0 z z1 k2 hcq) (cwV 1 hts (tw_gV2 wT_good (fun _ h => h) (wT_C _ xq_818) (wT_C _ xq_819) (wT_C _ xq_820) (wT_C _ xq_773) (wT_C _ xq_807)) rfl rfl rfl cdd_X11_needDiagram ⟨(Nat.le_of_ble_eq_true rfl), (Nat.le_of_ble_eq_true rfl)⟩) (ct_preV hK hTh hM (co_X11 hr0) rfl) rfl rfl hl.1 rfl (lv_room (Nat.le_of_ble_eq_true rfl)) dcX11_moves_2 ⟨(Nat.le_of_ble_eq_true rfl), (Nat.le_of_ble_eq_true rfl)⟩) (fun E ce q9 H locs hk hE hM hce hcv hcl => ?_) (fun H locs hk hM => ?_)
  · have hq := tw_if hq hk
    obtain ⟨rfl, h9⟩ := Prod.mk.inj (Option.some.inj hq)
    obtain ⟨rfl, rfl⟩ := Prod.mk.inj h9
    exact ct_out hex hlocks hk hE hM hce hcv hcl hQQ (Nat.le_of_ble_eq_true rfl) (Nat.le_of_ble_eq_true rfl)
  have hq := tw_it hq hk
  refine lv_iload_n hx hb dcX11_moves_5 rfl (lv_at hl 2 rfl) ?_
  refine lv_if_lt (tgt := 14) hx hb dcX11_moves_6 (by decide) (fun hc => ?_) (fun hc => ?_)
  · have hq := tw_it hq hc
    obtain ⟨rfl, h9⟩ := Prod.mk.inj (Option.some.inj hq)
    obtain ⟨rfl, rfl⟩ := Prod.mk.inj h9
    exact ct_throwW (k := 2) (text := "there are five kinds of moves") (cls := "java/lang/IllegalArgumentException") hx hb hlt hown hex hlocks (by rw [hml]; exact hl.1.symm) hTh (List.mem_of_getElem? (i := 15) rfl) rfl (by decide) (by decide +kernel) (hts _ (List.mem_cons_of_mem _ wT_k2)) (hts _ (List.mem_cons_of_mem _ wT_i2)) (fun w h => hts w (List.mem_cons_of_mem _ (wT_2 w h))) th9_2 tg9_2 hM dcX11_moves_14 dcX11_moves_17 dcX11_moves_18 dcX11_moves_21 dcX11_moves_24 hQQ (Nat.le_of_ble_eq_true rfl) (Nat.le_of_ble_eq_true rfl) (Nat.le_of_ble_eq_true rfl) (Nat.le_of_ble_eq_true rfl) (Nat.le_of_ble_eq_true rfl) (Nat.le_of_ble_eq_true rfl)
  · have hq := tw_if hq hc
    refine lv_iload_n hx hb dcX11_moves_9 rfl (lv_at hl 2 rfl) ?_
    refine lv_iconst (v := 5) hx hb dcX11_moves_10 (by decide) ?_
    refine lv_icmp_lt (tgt := 25) hx hb dcX11_moves_11 (by decide) (fun hc => ?_) (fun hc => ?_)
    · have hq := tw_it hq hc
      refine lv_aload_n hx hb dcX11_moves_25 rfl (lv_at hl 0 rfl) ?_
      refine vgX11_18 hx hb hT hown hK hM hr0 dcX11_moves_26 ?_
      refine lv_iconst (v := 0) hx hb dcX11_moves_29 (by decide) ?_
      refine vpX11_283 hx hb hT hown hK hM hU (cs_X11_1 hr0) hq dcX11_moves_30 (fun z3 H locs hM hq => ?_)
      refine lv_aload_n hx hb dcX11_moves_33 rfl (lv_at hl 0 rfl) ?_
      refine vgX11_58 hx hb hT hown hK hM hr0 dcX11_moves_34 ?_
      refine lv_aload_n hx hb dcX11_moves_37 rfl (lv_at hl 0 rfl) ?_
      refine vgX11_14 hx hb hT hown hK hM hr0 dcX11_moves_38 ?_
      refine lv_iload_n hx hb dcX11_moves_41 rfl (lv_at hl 1 rfl) ?_
      refine lv_iload_n hx hb dcX11_moves_42 rfl (lv_at hl 2 rfl) ?_
      refine lv_aload_n hx hb dcX11_moves_43 rfl (lv_at hl 0 rfl) ?_
      refine vgX11_18 hx hb hT hown hK hM hr0 dcX11_moves_44 ?_
      obtain ⟨z4, hcq, hq⟩ := tw_cl0 hq
      refine uw_calv hU hM (va_runV (As := [.ref (u (r0 + 1000)), .int x1, .int x2, .ref (u (r0 + 2000))]) (rest := []) ⟨hx, hb, hml, hown, hts⟩ (kc_X6_collect l D q vl u hU.1 K (r0 + 12000) (r0 + 1000) x1 x2 (r0 + 2000) (cs_X11_8 hr0) (cs_X11_0 hr0) (cs_X11_1 hr0) z3 z4 hcq) (cwV 4 hts (tw_gV2 wT_good wT_C (wT_C _ xq_869) (wT_C _ xq_563) (wT_C _ xq_564) (wT_C _ xq_146) (wT_C _ xq_559)) rfl rfl rfl cdd_X6_collect ⟨(Nat.le_of_ble_eq_true rfl), (Nat.le_of_ble_eq_true rfl)⟩) (cw_preV hK hM (co_X6 (cs_X11_8 hr0)) rfl) rfl rfl hl.1 rfl (lv_room (Nat.le_of_ble_eq_true rfl)) dcX11_moves_47 ⟨(Nat.le_of_ble_eq_true rfl), (Nat.le_of_ble_eq_true rfl)⟩) (fun H locs hM => ?_)
      refine lv_aload_n hx hb dcX11_moves_50 rfl (lv_at hl 0 rfl) ?_
      refine vgX11_18 hx hb hT hown hK hM hr0 dcX11_moves_51 ?_
      refine vgX11_283 hx hb hT hown hK hM (cs_X11_1 hr0) hq dcX11_moves_54 (fun v5 hq => ?_)
      exact ct_iret hx hb hr hlocks hM hq hQQ (Nat.le_of_ble_eq_true rfl) (Nat.le_of_ble_eq_true rfl) dcX11_moves_57
    · have hq := tw_if hq hc
      obtain ⟨rfl, h9⟩ := Prod.mk.inj (Option.some.inj hq)
      obtain ⟨rfl, rfl⟩ := Prod.mk.inj h9
      exact ct_throwW (k := 2) (text := "there are five kinds of moves") (cls := "java/lang/IllegalArgumentException") hx hb hlt hown hex hlocks (by rw [hml]; exact hl.1.symm) hTh (List.mem_of_getElem? (i := 15) rfl) rfl (by decide) (by decide +kernel) (hts _ (List.mem_cons_of_mem _ wT_k2)) (hts _ (List.mem_cons_of_mem _ wT_i2)) (fun w h => hts w (List.mem_cons_of_mem _ (wT_2 w h))) th9_2 tg9_2 hM dcX11_moves_14 dcX11_moves_17 dcX11_moves_18 dcX11_moves_21 dcX11_moves_24 hQQ (Nat.le_of_ble_eq_true rfl) (Nat.le_of_ble_eq_true rfl) (Nat.le_of_ble_eq_true rfl) (Nat.le_of_ble_eq_true rfl) (Nat.le_of_ble_eq_true rfl) (Nat.le_of_ble_eq_true rfl)
theorem dcX11_copyOut_0 : decode cX11_copyOut 0 = .ok (.iload_n 2, 1) := dw_at cX11_copyOut_k0 (p := 0) rfl (by decide +kernel)
theorem dcX11_copyOut_1 : decode cX11_copyOut 1 = .ok (.ifCond .lt 11, 3) := dw_at cX11_copyOut_k0 (p := 1) rfl (by decide +kernel)
theorem dcX11_copyOut_4 : decode cX11_copyOut 4 = .ok (.iload_n 2, 1) := dw_at cX11_copyOut_k0 (p := 4) rfl (by decide +kernel)
theorem dcX11_copyOut_5 : decode cX11_copyOut 5 = .ok (.aload_n 1, 1) := dw_at cX11_copyOut_k0 (p := 5) rfl (by decide +kernel)
theorem dcX11_copyOut_6 : decode cX11_copyOut 6 = .ok (.getfield 283, 3) := dw_at cX11_copyOut_k0 (p := 6) rfl (by decide +kernel)
theorem dcX11_copyOut_9 : decode cX11_copyOut 9 = .ok (.if_icmp .lt 14, 3) := dw_at cX11_copyOut_k0 (p := 9) rfl (by decide +kernel)
theorem dcX11_copyOut_12 : decode cX11_copyOut 12 = .ok (.new 164, 3) := dw_at cX11_copyOut_k0 (p := 12) rfl (by decide +kernel)
theorem dcX11_copyOut_15 : decode cX11_copyOut 15 = .ok (.dup, 1) := dw_at cX11_copyOut_k0 (p := 15) rfl (by decide +kernel)
theorem dcX11_copyOut_16 : decode cX11_copyOut 16 = .ok (.ldc_w 294, 3) := dw_at cX11_copyOut_k0 (p := 16) rfl (by decide +kernel)
theorem dcX11_copyOut_19 : decode cX11_copyOut 19 = .ok (.invokespecial 168, 3) := dw_at cX11_copyOut_k0 (p := 19) rfl (by decide +kernel)
theorem dcX11_copyOut_22 : decode cX11_copyOut 22 = .ok (.athrow, 1) := dw_at cX11_copyOut_k0 (p := 22) rfl (by decide +kernel)
theorem dcX11_copyOut_23 : decode cX11_copyOut 23 = .ok (.aload_n 0, 1) := dw_at cX11_copyOut_k0 (p := 23) rfl (by decide +kernel)
theorem dcX11_copyOut_24 : decode cX11_copyOut 24 = .ok (.invokevirtual 133, 3) := dw_at cX11_copyOut_k1 (p := 0) rfl (by decide +kernel)
theorem dcX11_copyOut_27 : decode cX11_copyOut 27 = .ok (.istore_n 3, 1) := dw_at cX11_copyOut_k1 (p := 3) rfl (by decide +kernel)
theorem dcX11_copyOut_28 : decode cX11_copyOut 28 = .ok (.aload_n 0, 1) := dw_at cX11_copyOut_k1 (p := 4) rfl (by decide +kernel)
theorem dcX11_copyOut_29 : decode cX11_copyOut 29 = .ok (.getfield 14, 3) := dw_at cX11_copyOut_k1 (p := 5) rfl (by decide +kernel)
theorem dcX11_copyOut_32 : decode cX11_copyOut 32 = .ok (.iload_n 3, 1) := dw_at cX11_copyOut_k1 (p := 8) rfl (by decide +kernel)
theorem dcX11_copyOut_33 : decode cX11_copyOut 33 = .ok (.aload_n 1, 1) := dw_at cX11_copyOut_k1 (p := 9) rfl (by decide +kernel)
theorem dcX11_copyOut_34 : decode cX11_copyOut 34 = .ok (.aload_n 1, 1) := dw_at cX11_copyOut_k1 (p := 10) rfl (by decide +kernel)
theorem dcX11_copyOut_35 : decode cX11_copyOut 35 = .ok (.getfield 296, 3) := dw_at cX11_copyOut_k1 (p := 11) rfl (by decide +kernel)
theorem dcX11_copyOut_38 : decode cX11_copyOut 38 = .ok (.iload_n 2, 1) := dw_at cX11_copyOut_k1 (p := 14) rfl (by decide +kernel)
theorem dcX11_copyOut_39 : decode cX11_copyOut 39 = .ok (.iaload, 1) := dw_at cX11_copyOut_k1 (p := 15) rfl (by decide +kernel)
theorem dcX11_copyOut_40 : decode cX11_copyOut 40 = .ok (.invokevirtual 185, 3) := dw_at cX11_copyOut_k1 (p := 16) rfl (by decide +kernel)
theorem dcX11_copyOut_43 : decode cX11_copyOut 43 = .ok (.iload_n 3, 1) := dw_at cX11_copyOut_k1 (p := 19) rfl (by decide +kernel)
theorem dcX11_copyOut_44 : decode cX11_copyOut 44 = .ok (.ireturn, 1) := dw_at cX11_copyOut_k1 (p := 20) rfl (by decide +kernel)
def cm_X11_copyOut_0 (vl : Nat → Nat) (K : Nat) (x2 : Int32) (r0 : Nat) (r1 : Nat) (z : ow_MS) : Option (Nat × Int32 × ow_MS) :=
 (if x2 < 0 then some (1, 0, z)
 else rdF z (r1 + 5) fun v1 => (if x2 < v1 then tc1 (ce_X11_freeDiagram vl K r0 z) (fun k z => some (k, 0, z)) fun v4 z2 => crI (cX vl) z2 (r1 + 4) x2 fun v5 => cs0 (ce_X3_write vl K (r0 + 1000) v4 r1 v5 z2) fun z6 => some (0, v4, z6)
 else some (1, 0, z)))
def ce_X11_copyOut (vl : Nat → Nat) (K : Nat) (r0 : Nat) (r1 : Nat) (x2 : Int32) (z : ow_MS) : Option (Nat × Int32 × ow_MS) := cm_X11_copyOut_0 vl K x2 r0 r1 z
abbrev wc_X11_copyOut : List Cond := .code yX11_copyOut cX11_copyOut 4 (some .int) :: wT
theorem cdd_X11_copyOut : yX11_copyOut.cls = RX11 ∧ yX11_copyOut.cls ≠ "java/lang/invoke/MethodHandle" ∧ yX11_copyOut.cls ≠ "java/lang/invoke/VarHandle" ∧ (parseMethodDescriptor yX11_copyOut.desc).map (fun d => d.parameters.length) = some 2 := by decide +kernel
set_option maxHeartbeats 4000000 in
set_option maxRecDepth 100000 in
theorem kc_X11_copyOut (l : Launch) (D : va_G) (q : Nat → ClassId) (vl u : Nat → Nat) (hU0 : tw_inj (cX vl) u) (hlt : l.stackTraces = false) (sa : Nat → Nat) (K : Nat) (r0 : Nat) (r1 : Nat) (x2 : Int32) (hr0 : cw_X11 r0) (hr1 : cw_X3 r1) (z z1 : ow_MS) (k9 : Nat) (r : Int32) (hq : ce_X11_copyOut vl K r0 r1 x2 z = some (k9, r, z1)) : vx_Met l yX11_copyOut wc_X11_copyOut ({ frames := 7, cells := 2, slots := 12, locals := 111 } : Room) (va_Pc [.ref (u r0), .ref (u r1), .int x2] (cw_preT D q vl u sa z)) (va_Qi (fun x (_ : Unit) => k9 = 0 ∧ x = r) (fun _ t => va_P D vwCl (uw (cX vl) q u z1) t.heap) (tw_A (cX vl) u)) (ct_X D q vl u k9 z1) 2 12 (tw_A (cX vl) u) := by
  refine vx_ofW (cc := cX11_copyOut) (maxL := 4) (ret := (some .int)) (by decide) rfl ?_
  intro p e s m args below meth c s₁ B hml hex hv
  obtain ⟨rfl, hP, hK, hTh⟩ := hv
  have hx := B.exec
  have hb := B.bytes
  have hr := B.returns
  have hts := atoms_spec (ws := wc_X11_copyOut) B.pre
  have hT : ∀ w ∈ wC, w.before ([.ref (u r0), .ref (u r1), .int x2] : List Value).toArray s = true := fun w h => hts w (List.mem_cons_of_mem _ (wT_C w h))
  have hown : s.vm.findClass RX11 = some m.cls := findClass_of_methodNamed B.named
  have hlocks := B.notSynchronized
  have hU : uw_inj (cX vl) u (tw_A (cX vl) u) := ⟨hU0, fun h hh => ⟨h, hh, rfl⟩⟩
  have hM : uw_M D vwCl (cX vl) q (tw_A (cX vl) u) s.heap u z s.heap [] := ⟨hP, va_S.rf⟩
  have hl := lv_entry ([.ref (u r0), .ref (u r1), .int x2]) (n := 4) (Nat.le_of_ble_eq_true rfl)
  rw [lg_entry_eq]
  generalize (lg_sl ([.ref (u r0), .ref (u r1), .int x2]) ++ List.replicate (4 - (lg_sl ([.ref (u r0), .ref (u r1), .int x2])).length) Slot.unset).toArray = ls at hl ⊢
  have hl : lv_has ls 4 [(0, .ref (u r0)), (1, .ref (u r1)), (2, .int x2)] := hl
  refine ow_named (fun QQ hQQ => ?_)
  generalize ([.ref (u r0), .ref (u r1), .int x2] : List Value).toArray = args at hts hT hQQ ⊢
  have hq : cm_X11_copyOut_0 vl K x2 r0 r1 z = some (k9, r, z1) := hq
  unfold cm_X11_copyOut_0 at hq
  suffices key : ∀ (H : Heap) (locs : List Loc), uw_M D vwCl (cX vl) q (tw_A (cX vl) u) s.heap u z H locs → W p l e ({ frames := 7, cells := 2, slots := 12, locals := 111 } : Room) s m args below meth c H locs 0 0 QQ (F0 m 0 ls []) from key s.heap [] hM
  intro H locs hM
  refine lv_iload_n hx hb dcX11_copyOut_0 rfl (lv_at hl 2 rfl) ?_
  refine lv_if_lt (tgt := 12) hx hb dcX11_copyOut_1 (by decide) (fun hc => ?_) (fun hc => ?_)
  · have hq := tw_it hq hc
    obtain ⟨rfl, h9⟩ := Prod.mk.inj (Option.some.inj hq)
    obtain ⟨rfl, rfl⟩ := Prod.mk.inj h9
    exact ct_throwW (k := 1) (text := "so many were not found") (cls := "java/lang/IndexOutOfBoundsException") hx hb hlt hown hex hlocks (by rw [hml]; exact hl.1.symm) hTh (List.mem_of_getElem? (i := 16) rfl) rfl (by decide) (by decide +kernel) (hts _ (List.mem_cons_of_mem _ wT_k1)) (hts _ (List.mem_cons_of_mem _ wT_i1)) (fun w h => hts w (List.mem_cons_of_mem _ (wT_1 w h))) th9_1 tg9_1 hM dcX11_copyOut_12 dcX11_copyOut_15 dcX11_copyOut_16 dcX11_copyOut_19 dcX11_copyOut_22 hQQ (Nat.le_of_ble_eq_true rfl) (Nat.le_of_ble_eq_true rfl) (Nat.le_of_ble_eq_true rfl) (Nat.le_of_ble_eq_true rfl) (Nat.le_of_ble_eq_true rfl) (Nat.le_of_ble_eq_true rfl)
  · have hq := tw_if hq hc
    refine lv_iload_n hx hb dcX11_copyOut_4 rfl (lv_at hl 2 rfl) ?_
    refine lv_aload_n hx hb dcX11_copyOut_5 rfl (lv_at hl 1 rfl) ?_
    refine vgX11_283 hx hb hT hown hK hM hr1 hq dcX11_copyOut_6 (fun v1 hq => ?_)
    refine lv_icmp_lt (tgt := 23) hx hb dcX11_copyOut_9 (by decide) (fun hc => ?_) (fun hc => ?_)
    · have hq := tw_it hq hc
      refine lv_aload_n hx hb dcX11_copyOut_23 rfl (lv_at hl 0 rfl) ?_
      obtain ⟨k3, v4, z2, hcq, hq⟩ := ct_tc1 hq
      refine ct_cali hU hM (vx_runV (As := []) (rest := []) ⟨hx, hb, hml, hown, hts⟩ (kc_X11_freeDiagram l D q vl u hU.1 hlt sa K r0 hr0 z z2 k3 v4 hcq) (cwV 0 hts (tw_gV2 wT_good (fun _ h => h) (wT_C _ xq_770) (wT_C _ xq_771) (wT_C _ xq_772) (wT_C _ xq_773) (wT_C _ xq_774)) rfl rfl rfl cdd_X11_freeDiagram ⟨(Nat.le_of_ble_eq_true rfl), (Nat.le_of_ble_eq_true rfl)⟩) (ct_preV hK hTh hM (co_X11 hr0) rfl) rfl rfl hl.1 rfl (lv_room (Nat.le_of_ble_eq_true rfl)) dcX11_copyOut_24 ⟨(Nat.le_of_ble_eq_true rfl), (Nat.le_of_ble_eq_true rfl)⟩) (fun E ce q9 H locs hk hE hM hce hcv hcl => ?_) (fun H locs hk hM => ?_)
      · have hq := tw_if hq hk
        obtain ⟨rfl, h9⟩ := Prod.mk.inj (Option.some.inj hq)
        obtain ⟨rfl, rfl⟩ := Prod.mk.inj h9
        exact ct_out hex hlocks hk hE hM hce hcv hcl hQQ (Nat.le_of_ble_eq_true rfl) (Nat.le_of_ble_eq_true rfl)
      have hq := tw_it hq hk
      refine lv_istore_n (lv' := [(3, .int v4), (0, .ref (u r0)), (1, .ref (u r1)), (2, .int x2)]) hx hb dcX11_copyOut_27 rfl hl (by decide) rfl (fun ls hl => ?_)
      refine lv_aload_n hx hb dcX11_copyOut_28 rfl (lv_at hl 1 rfl) ?_
      refine vgX11_14 hx hb hT hown hK hM hr0 dcX11_copyOut_29 ?_
      refine lv_iload_n hx hb dcX11_copyOut_32 rfl (lv_at hl 0 rfl) ?_
      refine lv_aload_n hx hb dcX11_copyOut_33 rfl (lv_at hl 2 rfl) ?_
      refine lv_aload_n hx hb dcX11_copyOut_34 rfl (lv_at hl 2 rfl) ?_
      refine vgX11_296 hx hb hT hown hK hM hr1 dcX11_copyOut_35 ?_
      refine lv_iload_n hx hb dcX11_copyOut_38 rfl (lv_at hl 3 rfl) ?_
      refine uw_iald cX_ok hx hb hK hM (cr_X3_3 hr1) hq dcX11_copyOut_39 (fun v5 hq => ?_)
      obtain ⟨z6, hcq, hq⟩ := tw_cl0 hq
      refine uw_calv hU hM (va_runV (As := [.int v4, .ref (u r1), .int v5]) (rest := []) ⟨hx, hb, hml, hown, hts⟩ (kc_X3_write l D q vl u hU.1 K (r0 + 1000) v4 r1 v5 (cs_X11_0 hr0) hr1 z2 z6 hcq) (cwV 3 hts (tw_gV2 wT_good wT_C (wT_C _ xq_788) (wT_C _ xq_331) (wT_C _ xq_332) (wT_C _ xq_313) (wT_C _ xq_333)) rfl rfl rfl cdd_X3_write ⟨(Nat.le_of_ble_eq_true rfl), (Nat.le_of_ble_eq_true rfl)⟩) (cw_preV hK hM (co_X3 (cs_X11_0 hr0)) rfl) rfl rfl hl.1 rfl (lv_room (Nat.le_of_ble_eq_true rfl)) dcX11_copyOut_40 ⟨(Nat.le_of_ble_eq_true rfl), (Nat.le_of_ble_eq_true rfl)⟩) (fun H locs hM => ?_)
      refine lv_iload_n hx hb dcX11_copyOut_43 rfl (lv_at hl 0 rfl) ?_
      exact ct_iret hx hb hr hlocks hM hq hQQ (Nat.le_of_ble_eq_true rfl) (Nat.le_of_ble_eq_true rfl) dcX11_copyOut_44
    · have hq := tw_if hq hc
      obtain ⟨rfl, h9⟩ := Prod.mk.inj (Option.some.inj hq)
      obtain ⟨rfl, rfl⟩ := Prod.mk.inj h9
      exact ct_throwW (k := 1) (text := "so many were not found") (cls := "java/lang/IndexOutOfBoundsException") hx hb hlt hown hex hlocks (by rw [hml]; exact hl.1.symm) hTh (List.mem_of_getElem? (i := 16) rfl) rfl (by decide) (by decide +kernel) (hts _ (List.mem_cons_of_mem _ wT_k1)) (hts _ (List.mem_cons_of_mem _ wT_i1)) (fun w h => hts w (List.mem_cons_of_mem _ (wT_1 w h))) th9_1 tg9_1 hM dcX11_copyOut_12 dcX11_copyOut_15 dcX11_copyOut_16 dcX11_copyOut_19 dcX11_copyOut_22 hQQ (Nat.le_of_ble_eq_true rfl) (Nat.le_of_ble_eq_true rfl) (Nat.le_of_ble_eq_true rfl) (Nat.le_of_ble_eq_true rfl) (Nat.le_of_ble_eq_true rfl) (Nat.le_of_ble_eq_true rfl)
theorem dcX11_moved_0 : decode cX11_moved 0 = .ok (.aload_n 0, 1) := by decide +kernel
theorem dcX11_moved_1 : decode cX11_moved 1 = .ok (.aload_n 0, 1) := by decide +kernel
theorem dcX11_moved_2 : decode cX11_moved 2 = .ok (.getfield 18, 3) := by decide +kernel
theorem dcX11_moved_5 : decode cX11_moved 5 = .ok (.iload_n 1, 1) := by decide +kernel
theorem dcX11_moved_6 : decode cX11_moved 6 = .ok (.invokevirtual 290, 3) := by decide +kernel
theorem dcX11_moved_9 : decode cX11_moved 9 = .ok (.ireturn, 1) := by decide +kernel
def cm_X11_moved_0 (vl : Nat → Nat) (K : Nat) (x1 : Int32) (r0 : Nat) (z : ow_MS) : Option (Nat × Int32 × ow_MS) :=
 tc1 (ce_X11_copyOut vl K r0 (r0 + 2000) x1 z) (fun k z => some (k, 0, z)) fun v3 z1 => some (0, v3, z1)
def ce_X11_moved (vl : Nat → Nat) (K : Nat) (r0 : Nat) (x1 : Int32) (z : ow_MS) : Option (Nat × Int32 × ow_MS) := cm_X11_moved_0 vl K x1 r0 z
abbrev wc_X11_moved : List Cond := .code yX11_moved cX11_moved 2 (some .int) :: wT
theorem cdd_X11_moved : yX11_moved.cls = RX11 ∧ yX11_moved.cls ≠ "java/lang/invoke/MethodHandle" ∧ yX11_moved.cls ≠ "java/lang/invoke/VarHandle" ∧ (parseMethodDescriptor yX11_moved.desc).map (fun d => d.parameters.length) = some 1 := by decide +kernel
set_option maxHeartbeats 4000000 in
set_option maxRecDepth 100000 in
theorem kc_X11_moved (l : Launch) (D : va_G) (q : Nat → ClassId) (vl u : Nat → Nat) (hU0 : tw_inj (cX vl) u) (hlt : l.stackTraces = false) (sa : Nat → Nat) (K : Nat) (r0 : Nat) (x1 : Int32) (hr0 : cw_X11 r0) (z z1 : ow_MS) (k9 : Nat) (r : Int32) (hq : ce_X11_moved vl K r0 x1 z = some (k9, r, z1)) : vx_Met l yX11_moved wc_X11_moved ({ frames := 8, cells := 2, slots := 12, locals := 134 } : Room) (va_Pc [.ref (u r0), .int x1] (cw_preT D q vl u sa z)) (va_Qi (fun x (_ : Unit) => k9 = 0 ∧ x = r) (fun _ t => va_P D vwCl (uw (cX vl) q u z1) t.heap) (tw_A (cX vl) u)) (ct_X D q vl u k9 z1) 2 12 (tw_A (cX vl) u) := by
  refine vx_ofW (cc := cX11_moved) (maxL := 2) (ret := (some .int)) (by decide) rfl ?_
  intro p e s m args below meth c s₁ B hml hex hv
  obtain ⟨rfl, hP, hK, hTh⟩ := hv
  have hx := B.exec
  have hb := B.bytes
  have hr := B.returns
  have hts := atoms_spec (ws := wc_X11_moved) B.pre
  have hT : ∀ w ∈ wC, w.before ([.ref (u r0), .int x1] : List Value).toArray s = true := fun w h => hts w (List.mem_cons_of_mem _ (wT_C w h))
  have hown : s.vm.findClass RX11 = some m.cls := findClass_of_methodNamed B.named
  have hlocks := B.notSynchronized
  have hU : uw_inj (cX vl) u (tw_A (cX vl) u) := ⟨hU0, fun h hh => ⟨h, hh, rfl⟩⟩
  have hM : uw_M D vwCl (cX vl) q (tw_A (cX vl) u) s.heap u z s.heap [] := ⟨hP, va_S.rf⟩
  have hl := lv_entry ([.ref (u r0), .int x1]) (n := 2) (Nat.le_of_ble_eq_true rfl)
  rw [lg_entry_eq]
  generalize (lg_sl ([.ref (u r0), .int x1]) ++ List.replicate (2 - (lg_sl ([.ref (u r0), .int x1])).length) Slot.unset).toArray = ls at hl ⊢
  have hl : lv_has ls 2 [(0, .ref (u r0)), (1, .int x1)] := hl
  refine ow_named (fun QQ hQQ => ?_)
  generalize ([.ref (u r0), .int x1] : List Value).toArray = args at hts hT hQQ ⊢
  have hq : cm_X11_moved_0 vl K x1 r0 z = some (k9, r, z1) := hq
  unfold cm_X11_moved_0 at hq
  suffices key : ∀ (H : Heap) (locs : List Loc), uw_M D vwCl (cX vl) q (tw_A (cX vl) u) s.heap u z H locs → W p l e ({ frames := 8, cells := 2, slots := 12, locals := 134 } : Room) s m args below meth c H locs 0 0 QQ (F0 m 0 ls []) from key s.heap [] hM
  intro H locs hM
  refine lv_aload_n hx hb dcX11_moved_0 rfl (lv_at hl 0 rfl) ?_
  refine lv_aload_n hx hb dcX11_moved_1 rfl (lv_at hl 0 rfl) ?_
  refine vgX11_18 hx hb hT hown hK hM hr0 dcX11_moved_2 ?_
  refine lv_iload_n hx hb dcX11_moved_5 rfl (lv_at hl 1 rfl) ?_
  obtain ⟨k2, v3, z1, hcq, hq⟩ := ct_tc1 hq
  refine ct_cali hU hM (vx_runV (As := [.ref (u (r0 + 2000)), .int x1]) (rest := []) ⟨hx, hb, hml, hown, hts⟩ (kc_X11_copyOut l D q vl u hU.1 hlt sa K r0 (r0 + 2000) x1 hr0 (cs_X11_1 hr0) z z1 k2 v3 hcq) (cwV 2 hts (tw_gV2 wT_good (fun _ h => h) (wT_C _ xq_871) (wT_C _ xq_872) (wT_C _ xq_873) (wT_C _ xq_773) (wT_C _ xq_874)) rfl rfl rfl cdd_X11_copyOut ⟨(Nat.le_of_ble_eq_true rfl), (Nat.le_of_ble_eq_true rfl)⟩) (ct_preV hK hTh hM (co_X11 hr0) rfl) rfl rfl hl.1 rfl (lv_room (Nat.le_of_ble_eq_true rfl)) dcX11_moved_6 ⟨(Nat.le_of_ble_eq_true rfl), (Nat.le_of_ble_eq_true rfl)⟩) (fun E ce q9 H locs hk hE hM hce hcv hcl => ?_) (fun H locs hk hM => ?_)
  · have hq := tw_if hq hk
    obtain ⟨rfl, h9⟩ := Prod.mk.inj (Option.some.inj hq)
    obtain ⟨rfl, rfl⟩ := Prod.mk.inj h9
    exact ct_out hex hlocks hk hE hM hce hcv hcl hQQ (Nat.le_of_ble_eq_true rfl) (Nat.le_of_ble_eq_true rfl)
  have hq := tw_it hq hk
  exact ct_iret hx hb hr hlocks hM hq hQQ (Nat.le_of_ble_eq_true rfl) (Nat.le_of_ble_eq_true rfl) dcX11_moved_9
theorem dcX11_simplify_0 : decode cX11_simplify 0 = .ok (.aload_n 0, 1) := dw_at cX11_simplify_k0 (p := 0) rfl (by decide +kernel)
theorem dcX11_simplify_1 : decode cX11_simplify 1 = .ok (.iload_n 1, 1) := dw_at cX11_simplify_k0 (p := 1) rfl (by decide +kernel)
theorem dcX11_simplify_2 : decode cX11_simplify 2 = .ok (.invokevirtual 189, 3) := dw_at cX11_simplify_k0 (p := 2) rfl (by decide +kernel)
theorem dcX11_simplify_5 : decode cX11_simplify 5 = .ok (.aload_n 0, 1) := dw_at cX11_simplify_k0 (p := 5) rfl (by decide +kernel)
theorem dcX11_simplify_6 : decode cX11_simplify 6 = .ok (.invokevirtual 133, 3) := dw_at cX11_simplify_k0 (p := 6) rfl (by decide +kernel)
theorem dcX11_simplify_9 : decode cX11_simplify 9 = .ok (.istore_n 2, 1) := dw_at cX11_simplify_k0 (p := 9) rfl (by decide +kernel)
theorem dcX11_simplify_10 : decode cX11_simplify 10 = .ok (.aload_n 0, 1) := dw_at cX11_simplify_k0 (p := 10) rfl (by decide +kernel)
theorem dcX11_simplify_11 : decode cX11_simplify 11 = .ok (.getfield 58, 3) := dw_at cX11_simplify_k0 (p := 11) rfl (by decide +kernel)
theorem dcX11_simplify_14 : decode cX11_simplify 14 = .ok (.aload_n 0, 1) := dw_at cX11_simplify_k0 (p := 14) rfl (by decide +kernel)
theorem dcX11_simplify_15 : decode cX11_simplify 15 = .ok (.getfield 14, 3) := dw_at cX11_simplify_k0 (p := 15) rfl (by decide +kernel)
theorem dcX11_simplify_18 : decode cX11_simplify 18 = .ok (.iload_n 1, 1) := dw_at cX11_simplify_k0 (p := 18) rfl (by decide +kernel)
theorem dcX11_simplify_19 : decode cX11_simplify 19 = .ok (.invokevirtual 297, 3) := dw_at cX11_simplify_k0 (p := 19) rfl (by decide +kernel)
theorem dcX11_simplify_22 : decode cX11_simplify 22 = .ok (.aload_n 0, 1) := dw_at cX11_simplify_k0 (p := 22) rfl (by decide +kernel)
theorem dcX11_simplify_23 : decode cX11_simplify 23 = .ok (.getfield 58, 3) := dw_at cX11_simplify_k0 (p := 23) rfl (by decide +kernel)
theorem dcX11_simplify_26 : decode cX11_simplify 26 = .ok (.getfield 300, 3) := dw_at cX11_simplify_k1 (p := 0) rfl (by decide +kernel)
theorem dcX11_simplify_29 : decode cX11_simplify 29 = .ok (.astore_n 3, 1) := dw_at cX11_simplify_k1 (p := 3) rfl (by decide +kernel)
theorem dcX11_simplify_30 : decode cX11_simplify 30 = .ok (.aload_n 3, 1) := dw_at cX11_simplify_k1 (p := 4) rfl (by decide +kernel)
theorem dcX11_simplify_31 : decode cX11_simplify 31 = .ok (.getfield 283, 3) := dw_at cX11_simplify_k1 (p := 5) rfl (by decide +kernel)
theorem dcX11_simplify_34 : decode cX11_simplify 34 = .ok (.sipush 300, 3) := dw_at cX11_simplify_k1 (p := 8) rfl (by decide +kernel)
theorem dcX11_simplify_37 : decode cX11_simplify 37 = .ok (.if_icmp .le 6, 3) := dw_at cX11_simplify_k1 (p := 11) rfl (by decide +kernel)
theorem dcX11_simplify_40 : decode cX11_simplify 40 = .ok (.bipush (-2), 2) := dw_at cX11_simplify_k1 (p := 14) rfl (by decide +kernel)
theorem dcX11_simplify_42 : decode cX11_simplify 42 = .ok (.ireturn, 1) := dw_at cX11_simplify_k1 (p := 16) rfl (by decide +kernel)
theorem dcX11_simplify_43 : decode cX11_simplify 43 = .ok (.aload_n 0, 1) := dw_at cX11_simplify_k1 (p := 17) rfl (by decide +kernel)
theorem dcX11_simplify_44 : decode cX11_simplify 44 = .ok (.getfield 14, 3) := dw_at cX11_simplify_k1 (p := 18) rfl (by decide +kernel)
theorem dcX11_simplify_47 : decode cX11_simplify 47 = .ok (.iload_n 2, 1) := dw_at cX11_simplify_k1 (p := 21) rfl (by decide +kernel)
theorem dcX11_simplify_48 : decode cX11_simplify 48 = .ok (.aload_n 3, 1) := dw_at cX11_simplify_k1 (p := 22) rfl (by decide +kernel)
theorem dcX11_simplify_49 : decode cX11_simplify 49 = .ok (.aload_n 3, 1) := dw_at cX11_simplify_k1 (p := 23) rfl (by decide +kernel)
theorem dcX11_simplify_50 : decode cX11_simplify 50 = .ok (.getfield 296, 3) := dw_at cX11_simplify_k2 (p := 0) rfl (by decide +kernel)
theorem dcX11_simplify_53 : decode cX11_simplify 53 = .ok (.iconst 0, 1) := dw_at cX11_simplify_k2 (p := 3) rfl (by decide +kernel)
theorem dcX11_simplify_54 : decode cX11_simplify 54 = .ok (.iaload, 1) := dw_at cX11_simplify_k2 (p := 4) rfl (by decide +kernel)
theorem dcX11_simplify_55 : decode cX11_simplify 55 = .ok (.invokevirtual 185, 3) := dw_at cX11_simplify_k2 (p := 5) rfl (by decide +kernel)
theorem dcX11_simplify_58 : decode cX11_simplify 58 = .ok (.iload_n 2, 1) := dw_at cX11_simplify_k2 (p := 8) rfl (by decide +kernel)
theorem dcX11_simplify_59 : decode cX11_simplify 59 = .ok (.ireturn, 1) := dw_at cX11_simplify_k2 (p := 9) rfl (by decide +kernel)
def cm_X11_simplify_0 (vl : Nat → Nat) (K : Nat) (x1 : Int32) (r0 : Nat) (z : ow_MS) : Option (Nat × Int32 × ow_MS) :=
 tc0 (ce_X11_needDiagram vl K r0 x1 z) (fun k z => some (k, 0, z)) fun z1 => tc1 (ce_X11_freeDiagram vl K r0 z1) (fun k z => some (k, 0, z)) fun v5 z3 => cs0 (ce_X6_reach vl K (r0 + 12000) (r0 + 1000) x1 z3) fun z6 => rdF z6 (((r0 + 12000) + 1000) + 5) fun v7 => (if v7 ≤ 300 then crI (cX vl) z6 (((r0 + 12000) + 1000) + 4) 0 fun v8 => cs0 (ce_X3_write vl K (r0 + 1000) v5 ((r0 + 12000) + 1000) v8 z6) fun z9 => some (0, v5, z9)
 else some (0, (-2), z6))
def ce_X11_simplify (vl : Nat → Nat) (K : Nat) (r0 : Nat) (x1 : Int32) (z : ow_MS) : Option (Nat × Int32 × ow_MS) := cm_X11_simplify_0 vl K x1 r0 z
abbrev wc_X11_simplify : List Cond := .code yX11_simplify cX11_simplify 4 (some .int) :: wT
theorem cdd_X11_simplify : yX11_simplify.cls = RX11 ∧ yX11_simplify.cls ≠ "java/lang/invoke/MethodHandle" ∧ yX11_simplify.cls ≠ "java/lang/invoke/VarHandle" ∧ (parseMethodDescriptor yX11_simplify.desc).map (fun d => d.parameters.length) = some 1 := by decide +kernel
set_option maxHeartbeats 4000000 in
set_option maxRecDepth 100000 in
theorem kc_X11_simplify (l : Launch) (D : va_G) (q : Nat → ClassId) (vl u : Nat → Nat) (hU0 : tw_inj (cX vl) u) (hlt : l.stackTraces = false) (sa : Nat → Nat) (K : Nat) (r0 : Nat) (x1 : Int32) (hr0 : cw_X11 r0) (z z1 : ow_MS) (k9 : Nat) (r : Int32) (hq : ce_X11_simplify vl K r0 x1 z = some (k9, r, z1)) : vx_Met l yX11_simplify wc_X11_simplify ({ frames := 8, cells := 2, slots := 12, locals := 204 } : Room) (va_Pc [.ref (u r0), .int x1] (cw_preT D q vl u sa z)) (va_Qi (fun x (_ : Unit) => k9 = 0 ∧ x = r) (fun _ t => va_P D vwCl (uw (cX vl) q u z1) t.heap) (tw_A (cX vl) u)) (ct_X D q vl u k9 z1) 2 12 (tw_A (cX vl) u) := by
  refine vx_ofW (cc := cX11_simplify) (maxL := 4) (ret := (some .int)) (by decide) rfl ?_
  intro p e s m args below meth c s₁ B hml hex hv
  obtain ⟨rfl, hP, hK, hTh⟩ := hv
  have hx := B.exec
  have hb := B.bytes
  have hr := B.returns
  have hts := atoms_spec (ws := wc_X11_simplify) B.pre
  have hT : ∀ w ∈ wC, w.before ([.ref (u r0), .int x1] : List Value).toArray s = true := fun w h => hts w (List.mem_cons_of_mem _ (wT_C w h))
  have hown : s.vm.findClass RX11 = some m.cls := findClass_of_methodNamed B.named
  have hlocks := B.notSynchronized
  have hU : uw_inj (cX vl) u (tw_A (cX vl) u) := ⟨hU0, fun h hh => ⟨h, hh, rfl⟩⟩
  have hM : uw_M D vwCl (cX vl) q (tw_A (cX vl) u) s.heap u z s.heap [] := ⟨hP, va_S.rf⟩
  have hl := lv_entry ([.ref (u r0), .int x1]) (n := 4) (Nat.le_of_ble_eq_true rfl)
  rw [lg_entry_eq]
  generalize (lg_sl ([.ref (u r0), .int x1]) ++ List.replicate (4 - (lg_sl ([.ref (u r0), .int x1])).length) Slot.unset).toArray = ls at hl ⊢
  have hl : lv_has ls 4 [(0, .ref (u r0)), (1, .int x1)] := hl
  refine ow_named (fun QQ hQQ => ?_)
  generalize ([.ref (u r0), .int x1] : List Value).toArray = args at hts hT hQQ ⊢
  have hq : cm_X11_simplify_0 vl K x1 r0 z = some (k9, r, z1) := hq
  unfold cm_X11_simplify_0 at hq
  suffices key : ∀ (H : Heap) (locs : List Loc), uw_M D vwCl (cX vl) q (tw_A (cX vl) u) s.heap u z H locs → W p l e ({ frames := 8, cells := 2, slots := 12, locals := 204 } : Room) s m args below meth c H locs 0 0 QQ (F0 m 0 ls []) from key s.heap [] hM
  intro H locs hM
  refine lv_aload_n hx hb dcX11_simplify_0 rfl (lv_at hl 0 rfl) ?_
  refine lv_iload_n hx hb dcX11_simplify_1 rfl (lv_at hl 1 rfl) ?_
  obtain ⟨k2, z1, hcq, hq⟩ := ct_tc0 hq
  refine ct_calv hU hM (vx_runV (As := [.int x1]) (rest := []) ⟨hx, hb, hml, hown, hts⟩ (kc_X11_needDiagram l D q vl u hU.1 hlt sa K r0 x1 hr0 z z1 k2 hcq) (cwV 1 hts (tw_gV2 wT_good (fun _ h => h) (wT_C _ xq_818) (wT_C _ xq_819) (wT_C _ xq_820) (wT_C _ xq_773) (wT_C _ xq_807)) rfl rfl rfl cdd_X11_needDiagram ⟨(Nat.le_of_ble_eq_true rfl), (Nat.le_of_ble_eq_true rfl)⟩) (ct_preV hK hTh hM (co_X11 hr0) rfl) rfl rfl hl.1 rfl (lv_room (Nat.le_of_ble_eq_true rfl)) dcX11_simplify_2 ⟨(Nat.le_of_ble_eq_true rfl), (Nat.le_of_ble_eq_true rfl)⟩) (fun E ce q9 H locs hk hE hM hce hcv hcl => ?_) (fun H locs hk hM => ?_)
  · have hq := tw_if hq hk
    obtain ⟨rfl, h9⟩ := Prod.mk.inj (Option.some.inj hq)
    obtain ⟨rfl, rfl⟩ := Prod.mk.inj h9
    exact ct_out hex hlocks hk hE hM hce hcv hcl hQQ (Nat.le_of_ble_eq_true rfl) (Nat.le_of_ble_eq_true rfl)
  have hq := tw_it hq hk
  refine lv_aload_n hx hb dcX11_simplify_5 rfl (lv_at hl 0 rfl) ?_
  obtain ⟨k4, v5, z3, hcq, hq⟩ := ct_tc1 hq
  refine ct_cali hU hM (vx_runV (As := []) (rest := []) ⟨hx, hb, hml, hown, hts⟩ (kc_X11_freeDiagram l D q vl u hU.1 hlt sa K r0 hr0 z1 z3 k4 v5 hcq) (cwV 0 hts (tw_gV2 wT_good (fun _ h => h) (wT_C _ xq_770) (wT_C _ xq_771) (wT_C _ xq_772) (wT_C _ xq_773) (wT_C _ xq_774)) rfl rfl rfl cdd_X11_freeDiagram ⟨(Nat.le_of_ble_eq_true rfl), (Nat.le_of_ble_eq_true rfl)⟩) (ct_preV hK hTh hM (co_X11 hr0) rfl) rfl rfl hl.1 rfl (lv_room (Nat.le_of_ble_eq_true rfl)) dcX11_simplify_6 ⟨(Nat.le_of_ble_eq_true rfl), (Nat.le_of_ble_eq_true rfl)⟩) (fun E ce q9 H locs hk hE hM hce hcv hcl => ?_) (fun H locs hk hM => ?_)
  · have hq := tw_if hq hk
    obtain ⟨rfl, h9⟩ := Prod.mk.inj (Option.some.inj hq)
    obtain ⟨rfl, rfl⟩ := Prod.mk.inj h9
    exact ct_out hex hlocks hk hE hM hce hcv hcl hQQ (Nat.le_of_ble_eq_true rfl) (Nat.le_of_ble_eq_true rfl)
  have hq := tw_it hq hk
  refine lv_istore_n (lv' := [(2, .int v5), (0, .ref (u r0)), (1, .int x1)]) hx hb dcX11_simplify_9 rfl hl (by decide) rfl (fun ls hl => ?_)
  refine lv_aload_n hx hb dcX11_simplify_10 rfl (lv_at hl 1 rfl) ?_
  refine vgX11_58 hx hb hT hown hK hM hr0 dcX11_simplify_11 ?_
  refine lv_aload_n hx hb dcX11_simplify_14 rfl (lv_at hl 1 rfl) ?_
  refine vgX11_14 hx hb hT hown hK hM hr0 dcX11_simplify_15 ?_
  refine lv_iload_n hx hb dcX11_simplify_18 rfl (lv_at hl 2 rfl) ?_
  obtain ⟨z6, hcq, hq⟩ := tw_cl0 hq
  refine uw_calv hU hM (va_runV (As := [.ref (u (r0 + 1000)), .int x1]) (rest := []) ⟨hx, hb, hml, hown, hts⟩ (kc_X6_reach l D q vl u hU.1 K (r0 + 12000) (r0 + 1000) x1 (cs_X11_8 hr0) (cs_X11_0 hr0) z3 z6 hcq) (cwV 2 hts (tw_gV2 wT_good wT_C (wT_C _ xq_878) (wT_C _ xq_879) (wT_C _ xq_880) (wT_C _ xq_146) (wT_C _ xq_565)) rfl rfl rfl cdd_X6_reach ⟨(Nat.le_of_ble_eq_true rfl), (Nat.le_of_ble_eq_true rfl)⟩) (cw_preV hK hM (co_X6 (cs_X11_8 hr0)) rfl) rfl rfl hl.1 rfl (lv_room (Nat.le_of_ble_eq_true rfl)) dcX11_simplify_19 ⟨(Nat.le_of_ble_eq_true rfl), (Nat.le_of_ble_eq_true rfl)⟩) (fun H locs hM => ?_)
  refine lv_aload_n hx hb dcX11_simplify_22 rfl (lv_at hl 1 rfl) ?_
  refine vgX11_58 hx hb hT hown hK hM hr0 dcX11_simplify_23 ?_
  refine vgX11_300 hx hb hT hown hK hM (cs_X11_8 hr0) dcX11_simplify_26 ?_
  refine lv_astore_n (lv' := [(3, .ref (u ((r0 + 12000) + 1000))), (2, .int v5), (0, .ref (u r0)), (1, .int x1)]) hx hb dcX11_simplify_29 rfl hl (by decide) rfl (fun ls hl => ?_)
  refine lv_aload_n hx hb dcX11_simplify_30 rfl (lv_at hl 0 rfl) ?_
  refine vgX11_283 hx hb hT hown hK hM (cs_X6_0 (cs_X11_8 hr0)) hq dcX11_simplify_31 (fun v7 hq => ?_)
  refine lv_sipush (v := 300) hx hb dcX11_simplify_34 (by decide) ?_
  refine lv_icmp_le (tgt := 43) hx hb dcX11_simplify_37 (by decide) (fun hc => ?_) (fun hc => ?_)
  · have hq := tw_it hq hc
    refine lv_aload_n hx hb dcX11_simplify_43 rfl (lv_at hl 2 rfl) ?_
    refine vgX11_14 hx hb hT hown hK hM hr0 dcX11_simplify_44 ?_
    refine lv_iload_n hx hb dcX11_simplify_47 rfl (lv_at hl 1 rfl) ?_
    refine lv_aload_n hx hb dcX11_simplify_48 rfl (lv_at hl 0 rfl) ?_
    refine lv_aload_n hx hb dcX11_simplify_49 rfl (lv_at hl 0 rfl) ?_
    refine vgX11_296 hx hb hT hown hK hM (cs_X6_0 (cs_X11_8 hr0)) dcX11_simplify_50 ?_
    refine lv_iconst (v := 0) hx hb dcX11_simplify_53 (by decide) ?_
    refine uw_iald cX_ok hx hb hK hM (cr_X3_3 (cs_X6_0 (cs_X11_8 hr0))) hq dcX11_simplify_54 (fun v8 hq => ?_)
    obtain ⟨z9, hcq, hq⟩ := tw_cl0 hq
    refine uw_calv hU hM (va_runV (As := [.int v5, .ref (u ((r0 + 12000) + 1000)), .int v8]) (rest := []) ⟨hx, hb, hml, hown, hts⟩ (kc_X3_write l D q vl u hU.1 K (r0 + 1000) v5 ((r0 + 12000) + 1000) v8 (cs_X11_0 hr0) (cs_X6_0 (cs_X11_8 hr0)) z6 z9 hcq) (cwV 3 hts (tw_gV2 wT_good wT_C (wT_C _ xq_788) (wT_C _ xq_331) (wT_C _ xq_332) (wT_C _ xq_313) (wT_C _ xq_333)) rfl rfl rfl cdd_X3_write ⟨(Nat.le_of_ble_eq_true rfl), (Nat.le_of_ble_eq_true rfl)⟩) (cw_preV hK hM (co_X3 (cs_X11_0 hr0)) rfl) rfl rfl hl.1 rfl (lv_room (Nat.le_of_ble_eq_true rfl)) dcX11_simplify_55 ⟨(Nat.le_of_ble_eq_true rfl), (Nat.le_of_ble_eq_true rfl)⟩) (fun H locs hM => ?_)
    refine lv_iload_n hx hb dcX11_simplify_58 rfl (lv_at hl 1 rfl) ?_
    exact ct_iret hx hb hr hlocks hM hq hQQ (Nat.le_of_ble_eq_true rfl) (Nat.le_of_ble_eq_true rfl) dcX11_simplify_59
  · have hq := tw_if hq hc
    refine lv_bipush (v := (-2)) hx hb dcX11_simplify_40 (by decide) ?_
    exact ct_iret hx hb hr hlocks hM hq hQQ (Nat.le_of_ble_eq_true rfl) (Nat.le_of_ble_eq_true rfl) dcX11_simplify_42
theorem dcX11_way_0 : decode cX11_way 0 = .ok (.aload_n 0, 1) := dw_at cX11_way_k0 (p := 0) rfl (by decide +kernel)
theorem dcX11_way_1 : decode cX11_way 1 = .ok (.iload_n 1, 1) := dw_at cX11_way_k0 (p := 1) rfl (by decide +kernel)
theorem dcX11_way_2 : decode cX11_way 2 = .ok (.invokevirtual 189, 3) := dw_at cX11_way_k0 (p := 2) rfl (by decide +kernel)
theorem dcX11_way_5 : decode cX11_way 5 = .ok (.aload_n 0, 1) := dw_at cX11_way_k0 (p := 5) rfl (by decide +kernel)
theorem dcX11_way_6 : decode cX11_way 6 = .ok (.iload_n 2, 1) := dw_at cX11_way_k0 (p := 6) rfl (by decide +kernel)
theorem dcX11_way_7 : decode cX11_way 7 = .ok (.invokevirtual 189, 3) := dw_at cX11_way_k0 (p := 7) rfl (by decide +kernel)
theorem dcX11_way_10 : decode cX11_way 10 = .ok (.aload_n 0, 1) := dw_at cX11_way_k0 (p := 10) rfl (by decide +kernel)
theorem dcX11_way_11 : decode cX11_way 11 = .ok (.getfield 14, 3) := dw_at cX11_way_k0 (p := 11) rfl (by decide +kernel)
theorem dcX11_way_14 : decode cX11_way 14 = .ok (.getfield 220, 3) := dw_at cX11_way_k0 (p := 14) rfl (by decide +kernel)
theorem dcX11_way_17 : decode cX11_way 17 = .ok (.iload_n 1, 1) := dw_at cX11_way_k0 (p := 17) rfl (by decide +kernel)
theorem dcX11_way_18 : decode cX11_way 18 = .ok (.baload, 1) := dw_at cX11_way_k0 (p := 18) rfl (by decide +kernel)
theorem dcX11_way_19 : decode cX11_way 19 = .ok (.iconst 4, 1) := dw_at cX11_way_k0 (p := 19) rfl (by decide +kernel)
theorem dcX11_way_20 : decode cX11_way 20 = .ok (.if_icmp .gt 16, 3) := dw_at cX11_way_k0 (p := 20) rfl (by decide +kernel)
theorem dcX11_way_23 : decode cX11_way 23 = .ok (.aload_n 0, 1) := dw_at cX11_way_k0 (p := 23) rfl (by decide +kernel)
theorem dcX11_way_24 : decode cX11_way 24 = .ok (.getfield 14, 3) := dw_at cX11_way_k1 (p := 0) rfl (by decide +kernel)
theorem dcX11_way_27 : decode cX11_way 27 = .ok (.getfield 220, 3) := dw_at cX11_way_k1 (p := 3) rfl (by decide +kernel)
theorem dcX11_way_30 : decode cX11_way 30 = .ok (.iload_n 2, 1) := dw_at cX11_way_k1 (p := 6) rfl (by decide +kernel)
theorem dcX11_way_31 : decode cX11_way 31 = .ok (.baload, 1) := dw_at cX11_way_k1 (p := 7) rfl (by decide +kernel)
theorem dcX11_way_32 : decode cX11_way 32 = .ok (.iconst 4, 1) := dw_at cX11_way_k1 (p := 8) rfl (by decide +kernel)
theorem dcX11_way_33 : decode cX11_way 33 = .ok (.if_icmp .le 14, 3) := dw_at cX11_way_k1 (p := 9) rfl (by decide +kernel)
theorem dcX11_way_36 : decode cX11_way 36 = .ok (.new 263, 3) := dw_at cX11_way_k1 (p := 12) rfl (by decide +kernel)
theorem dcX11_way_39 : decode cX11_way 39 = .ok (.dup, 1) := dw_at cX11_way_k1 (p := 15) rfl (by decide +kernel)
theorem dcX11_way_40 : decode cX11_way 40 = .ok (.ldc_w 303, 3) := dw_at cX11_way_k1 (p := 16) rfl (by decide +kernel)
theorem dcX11_way_43 : decode cX11_way 43 = .ok (.invokespecial 267, 3) := dw_at cX11_way_k1 (p := 19) rfl (by decide +kernel)
theorem dcX11_way_46 : decode cX11_way 46 = .ok (.athrow, 1) := dw_at cX11_way_k1 (p := 22) rfl (by decide +kernel)
theorem dcX11_way_47 : decode cX11_way 47 = .ok (.aload_n 0, 1) := dw_at cX11_way_k1 (p := 23) rfl (by decide +kernel)
theorem dcX11_way_48 : decode cX11_way 48 = .ok (.getfield 14, 3) := dw_at cX11_way_k2 (p := 0) rfl (by decide +kernel)
theorem dcX11_way_51 : decode cX11_way 51 = .ok (.iload_n 1, 1) := dw_at cX11_way_k2 (p := 3) rfl (by decide +kernel)
theorem dcX11_way_52 : decode cX11_way 52 = .ok (.aload_n 0, 1) := dw_at cX11_way_k2 (p := 4) rfl (by decide +kernel)
theorem dcX11_way_53 : decode cX11_way 53 = .ok (.getfield 14, 3) := dw_at cX11_way_k2 (p := 5) rfl (by decide +kernel)
theorem dcX11_way_56 : decode cX11_way 56 = .ok (.iload_n 2, 1) := dw_at cX11_way_k2 (p := 8) rfl (by decide +kernel)
theorem dcX11_way_57 : decode cX11_way 57 = .ok (.invokevirtual 244, 3) := dw_at cX11_way_k2 (p := 9) rfl (by decide +kernel)
theorem dcX11_way_60 : decode cX11_way 60 = .ok (.ifCond .ne 5, 3) := dw_at cX11_way_k2 (p := 12) rfl (by decide +kernel)
theorem dcX11_way_63 : decode cX11_way 63 = .ok (.iconst 0, 1) := dw_at cX11_way_k2 (p := 15) rfl (by decide +kernel)
theorem dcX11_way_64 : decode cX11_way 64 = .ok (.ireturn, 1) := dw_at cX11_way_k2 (p := 16) rfl (by decide +kernel)
theorem dcX11_way_65 : decode cX11_way 65 = .ok (.aload_n 0, 1) := dw_at cX11_way_k2 (p := 17) rfl (by decide +kernel)
theorem dcX11_way_66 : decode cX11_way 66 = .ok (.getfield 58, 3) := dw_at cX11_way_k2 (p := 18) rfl (by decide +kernel)
theorem dcX11_way_69 : decode cX11_way 69 = .ok (.aload_n 0, 1) := dw_at cX11_way_k2 (p := 21) rfl (by decide +kernel)
theorem dcX11_way_70 : decode cX11_way 70 = .ok (.getfield 14, 3) := dw_at cX11_way_k2 (p := 22) rfl (by decide +kernel)
theorem dcX11_way_73 : decode cX11_way 73 = .ok (.iload_n 1, 1) := dw_at cX11_way_k3 (p := 0) rfl (by decide +kernel)
theorem dcX11_way_74 : decode cX11_way 74 = .ok (.aload_n 0, 1) := dw_at cX11_way_k3 (p := 1) rfl (by decide +kernel)
theorem dcX11_way_75 : decode cX11_way 75 = .ok (.getfield 58, 3) := dw_at cX11_way_k3 (p := 2) rfl (by decide +kernel)
theorem dcX11_way_78 : decode cX11_way 78 = .ok (.getfield 305, 3) := dw_at cX11_way_k3 (p := 5) rfl (by decide +kernel)
theorem dcX11_way_81 : decode cX11_way 81 = .ok (.invokevirtual 308, 3) := dw_at cX11_way_k3 (p := 8) rfl (by decide +kernel)
theorem dcX11_way_84 : decode cX11_way 84 = .ok (.aload_n 0, 1) := dw_at cX11_way_k3 (p := 11) rfl (by decide +kernel)
theorem dcX11_way_85 : decode cX11_way 85 = .ok (.getfield 58, 3) := dw_at cX11_way_k3 (p := 12) rfl (by decide +kernel)
theorem dcX11_way_88 : decode cX11_way 88 = .ok (.getfield 305, 3) := dw_at cX11_way_k3 (p := 15) rfl (by decide +kernel)
theorem dcX11_way_91 : decode cX11_way 91 = .ok (.aload_n 0, 1) := dw_at cX11_way_k3 (p := 18) rfl (by decide +kernel)
theorem dcX11_way_92 : decode cX11_way 92 = .ok (.getfield 14, 3) := dw_at cX11_way_k3 (p := 19) rfl (by decide +kernel)
theorem dcX11_way_95 : decode cX11_way 95 = .ok (.iload_n 2, 1) := dw_at cX11_way_k3 (p := 22) rfl (by decide +kernel)
theorem dcX11_way_96 : decode cX11_way 96 = .ok (.invokevirtual 312, 3) := dw_at cX11_way_k3 (p := 23) rfl (by decide +kernel)
theorem dcX11_way_99 : decode cX11_way 99 = .ok (.ifCond .lt 5, 3) := dw_at cX11_way_k4 (p := 0) rfl (by decide +kernel)
theorem dcX11_way_102 : decode cX11_way 102 = .ok (.iconst 1, 1) := dw_at cX11_way_k4 (p := 3) rfl (by decide +kernel)
theorem dcX11_way_103 : decode cX11_way 103 = .ok (.ireturn, 1) := dw_at cX11_way_k4 (p := 4) rfl (by decide +kernel)
theorem dcX11_way_104 : decode cX11_way 104 = .ok (.aload_n 0, 1) := dw_at cX11_way_k4 (p := 5) rfl (by decide +kernel)
theorem dcX11_way_105 : decode cX11_way 105 = .ok (.getfield 58, 3) := dw_at cX11_way_k4 (p := 6) rfl (by decide +kernel)
theorem dcX11_way_108 : decode cX11_way 108 = .ok (.aload_n 0, 1) := dw_at cX11_way_k4 (p := 9) rfl (by decide +kernel)
theorem dcX11_way_109 : decode cX11_way 109 = .ok (.getfield 14, 3) := dw_at cX11_way_k4 (p := 10) rfl (by decide +kernel)
theorem dcX11_way_112 : decode cX11_way 112 = .ok (.iload_n 2, 1) := dw_at cX11_way_k4 (p := 13) rfl (by decide +kernel)
theorem dcX11_way_113 : decode cX11_way 113 = .ok (.aload_n 0, 1) := dw_at cX11_way_k4 (p := 14) rfl (by decide +kernel)
theorem dcX11_way_114 : decode cX11_way 114 = .ok (.getfield 58, 3) := dw_at cX11_way_k4 (p := 15) rfl (by decide +kernel)
theorem dcX11_way_117 : decode cX11_way 117 = .ok (.getfield 315, 3) := dw_at cX11_way_k4 (p := 18) rfl (by decide +kernel)
theorem dcX11_way_120 : decode cX11_way 120 = .ok (.invokevirtual 308, 3) := dw_at cX11_way_k4 (p := 21) rfl (by decide +kernel)
theorem dcX11_way_123 : decode cX11_way 123 = .ok (.aload_n 0, 1) := dw_at cX11_way_k5 (p := 0) rfl (by decide +kernel)
theorem dcX11_way_124 : decode cX11_way 124 = .ok (.getfield 58, 3) := dw_at cX11_way_k5 (p := 1) rfl (by decide +kernel)
theorem dcX11_way_127 : decode cX11_way 127 = .ok (.getfield 305, 3) := dw_at cX11_way_k5 (p := 4) rfl (by decide +kernel)
theorem dcX11_way_130 : decode cX11_way 130 = .ok (.aload_n 0, 1) := dw_at cX11_way_k5 (p := 7) rfl (by decide +kernel)
theorem dcX11_way_131 : decode cX11_way 131 = .ok (.getfield 58, 3) := dw_at cX11_way_k5 (p := 8) rfl (by decide +kernel)
theorem dcX11_way_134 : decode cX11_way 134 = .ok (.getfield 315, 3) := dw_at cX11_way_k5 (p := 11) rfl (by decide +kernel)
theorem dcX11_way_137 : decode cX11_way 137 = .ok (.invokevirtual 318, 3) := dw_at cX11_way_k5 (p := 14) rfl (by decide +kernel)
theorem dcX11_way_140 : decode cX11_way 140 = .ok (.ifCond .eq 7, 3) := dw_at cX11_way_k5 (p := 17) rfl (by decide +kernel)
theorem dcX11_way_143 : decode cX11_way 143 = .ok (.iconst 2, 1) := dw_at cX11_way_k5 (p := 20) rfl (by decide +kernel)
theorem dcX11_way_144 : decode cX11_way 144 = .ok (.goto 4, 3) := dw_at cX11_way_k5 (p := 21) rfl (by decide +kernel)
theorem dcX11_way_147 : decode cX11_way 147 = .ok (.iconst (-1), 1) := dw_at cX11_way_k5 (p := 24) rfl (by decide +kernel)
theorem dcX11_way_148 : decode cX11_way 148 = .ok (.ireturn, 1) := dw_at cX11_way_k5 (p := 25) rfl (by decide +kernel)
def cm_X11_way_0 (vl : Nat → Nat) (K : Nat) (x1 : Int32) (x2 : Int32) (r0 : Nat) (z : ow_MS) : Option (Nat × Int32 × ow_MS) :=
 tc0 (ce_X11_needDiagram vl K r0 x1 z) (fun k z => some (k, 0, z)) fun z1 => tc0 (ce_X11_needDiagram vl K r0 x2 z1) (fun k z => some (k, 0, z)) fun z3 => crI (cX vl) z3 ((r0 + 1000) + 3) x1 fun v5 => (if 4 < v5 then some (4, 0, z3)
 else crI (cX vl) z3 ((r0 + 1000) + 3) x2 fun v6 => (if v6 ≤ 4 then cs1 (ce_X3_compare vl K (r0 + 1000) x1 (r0 + 1000) x2 z3) fun v8 z7 => (if v8 = 0 then some (0, 0, z7)
 else cs0 (ce_X6_surround vl K (r0 + 12000) (r0 + 1000) x1 ((r0 + 12000) + 2000) z7) fun z9 => cs1 (ce_X3_find vl K ((r0 + 12000) + 2000) (r0 + 1000) x2 z9) fun v11 z10 => (if v11 < 0 then cs0 (ce_X6_surround vl K (r0 + 12000) (r0 + 1000) x2 ((r0 + 12000) + 3000) z10) fun z12 => cs1 (ce_X3_meets vl K ((r0 + 12000) + 2000) ((r0 + 12000) + 3000) z12) fun v14 z13 => (if v14 = 0 then some (0, (-1), z13)
 else some (0, 2, z13))
 else some (0, 1, z10)))
 else some (4, 0, z3)))
def ce_X11_way (vl : Nat → Nat) (K : Nat) (r0 : Nat) (x1 : Int32) (x2 : Int32) (z : ow_MS) : Option (Nat × Int32 × ow_MS) := cm_X11_way_0 vl K x1 x2 r0 z
abbrev wc_X11_way : List Cond := .code yX11_way cX11_way 3 (some .int) :: wT
theorem cdd_X11_way : yX11_way.cls = RX11 ∧ yX11_way.cls ≠ "java/lang/invoke/MethodHandle" ∧ yX11_way.cls ≠ "java/lang/invoke/VarHandle" ∧ (parseMethodDescriptor yX11_way.desc).map (fun d => d.parameters.length) = some 2 := by decide +kernel
set_option maxHeartbeats 4000000 in
set_option maxRecDepth 100000 in
theorem kc_X11_way (l : Launch) (D : va_G) (q : Nat → ClassId) (vl u : Nat → Nat) (hU0 : tw_inj (cX vl) u) (hlt : l.stackTraces = false) (sa : Nat → Nat) (K : Nat) (r0 : Nat) (x1 : Int32) (x2 : Int32) (hr0 : cw_X11 r0) (z z1 : ow_MS) (k9 : Nat) (r : Int32) (hq : ce_X11_way vl K r0 x1 x2 z = some (k9, r, z1)) : vx_Met l yX11_way wc_X11_way ({ frames := 8, cells := 3, slots := 18, locals := 205 } : Room) (va_Pc [.ref (u r0), .int x1, .int x2] (cw_preT D q vl u sa z)) (va_Qi (fun x (_ : Unit) => k9 = 0 ∧ x = r) (fun _ t => va_P D vwCl (uw (cX vl) q u z1) t.heap) (tw_A (cX vl) u)) (ct_X D q vl u k9 z1) 3 18 (tw_A (cX vl) u) := by
  refine vx_ofW (cc := cX11_way) (maxL := 3) (ret := (some .int)) (by decide) rfl ?_
  intro p e s m args below meth c s₁ B hml hex hv
  obtain ⟨rfl, hP, hK, hTh⟩ := hv
  have hx := B.exec
  have hb := B.bytes
  have hr := B.returns
  have hts := atoms_spec (ws := wc_X11_way) B.pre
  have hT : ∀ w ∈ wC, w.before ([.ref (u r0), .int x1, .int x2] : List Value).toArray s = true := fun w h => hts w (List.mem_cons_of_mem _ (wT_C w h))
  have hown : s.vm.findClass RX11 = some m.cls := findClass_of_methodNamed B.named
  have hlocks := B.notSynchronized
  have hU : uw_inj (cX vl) u (tw_A (cX vl) u) := ⟨hU0, fun h hh => ⟨h, hh, rfl⟩⟩
  have hM : uw_M D vwCl (cX vl) q (tw_A (cX vl) u) s.heap u z s.heap [] := ⟨hP, va_S.rf⟩
  have hl := lv_entry ([.ref (u r0), .int x1, .int x2]) (n := 3) (Nat.le_of_ble_eq_true rfl)
  rw [lg_entry_eq]
  generalize (lg_sl ([.ref (u r0), .int x1, .int x2]) ++ List.replicate (3 - (lg_sl ([.ref (u r0), .int x1, .int x2])).length) Slot.unset).toArray = ls at hl ⊢
  have hl : lv_has ls 3 [(0, .ref (u r0)), (1, .int x1), (2, .int x2)] := hl
  refine ow_named (fun QQ hQQ => ?_)
  generalize ([.ref (u r0), .int x1, .int x2] : List Value).toArray = args at hts hT hQQ ⊢
  have hq : cm_X11_way_0 vl K x1 x2 r0 z = some (k9, r, z1) := hq
  unfold cm_X11_way_0 at hq
  suffices key : ∀ (H : Heap) (locs : List Loc), uw_M D vwCl (cX vl) q (tw_A (cX vl) u) s.heap u z H locs → W p l e ({ frames := 8, cells := 3, slots := 18, locals := 205 } : Room) s m args below meth c H locs 0 0 QQ (F0 m 0 ls []) from key s.heap [] hM
  intro H locs hM
  refine lv_aload_n hx hb dcX11_way_0 rfl (lv_at hl 0 rfl) ?_
  refine lv_iload_n hx hb dcX11_way_1 rfl (lv_at hl 1 rfl) ?_
  obtain ⟨k2, z1, hcq, hq⟩ := ct_tc0 hq
  refine ct_calv hU hM (vx_runV (As := [.int x1]) (rest := []) ⟨hx, hb, hml, hown, hts⟩ (kc_X11_needDiagram l D q vl u hU.1 hlt sa K r0 x1 hr0 z z1 k2 hcq) (cwV 1 hts (tw_gV2 wT_good (fun _ h => h) (wT_C _ xq_818) (wT_C _ xq_819) (wT_C _ xq_820) (wT_C _ xq_773) (wT_C _ xq_807)) rfl rfl rfl cdd_X11_needDiagram ⟨(Nat.le_of_ble_eq_true rfl), (Nat.le_of_ble_eq_true rfl)⟩) (ct_preV hK hTh hM (co_X11 hr0) rfl) rfl rfl hl.1 rfl (lv_room (Nat.le_of_ble_eq_true rfl)) dcX11_way_2 ⟨(Nat.le_of_ble_eq_true rfl), (Nat.le_of_ble_eq_true rfl)⟩) (fun E ce q9 H locs hk hE hM hce hcv hcl => ?_) (fun H locs hk hM => ?_)
  · have hq := tw_if hq hk
    obtain ⟨rfl, h9⟩ := Prod.mk.inj (Option.some.inj hq)
    obtain ⟨rfl, rfl⟩ := Prod.mk.inj h9
    exact ct_out hex hlocks hk hE hM hce hcv hcl hQQ (Nat.le_of_ble_eq_true rfl) (Nat.le_of_ble_eq_true rfl)
  have hq := tw_it hq hk
  refine lv_aload_n hx hb dcX11_way_5 rfl (lv_at hl 0 rfl) ?_
  refine lv_iload_n hx hb dcX11_way_6 rfl (lv_at hl 2 rfl) ?_
  obtain ⟨k4, z3, hcq, hq⟩ := ct_tc0 hq
  refine ct_calv hU hM (vx_runV (As := [.int x2]) (rest := []) ⟨hx, hb, hml, hown, hts⟩ (kc_X11_needDiagram l D q vl u hU.1 hlt sa K r0 x2 hr0 z1 z3 k4 hcq) (cwV 1 hts (tw_gV2 wT_good (fun _ h => h) (wT_C _ xq_818) (wT_C _ xq_819) (wT_C _ xq_820) (wT_C _ xq_773) (wT_C _ xq_807)) rfl rfl rfl cdd_X11_needDiagram ⟨(Nat.le_of_ble_eq_true rfl), (Nat.le_of_ble_eq_true rfl)⟩) (ct_preV hK hTh hM (co_X11 hr0) rfl) rfl rfl hl.1 rfl (lv_room (Nat.le_of_ble_eq_true rfl)) dcX11_way_7 ⟨(Nat.le_of_ble_eq_true rfl), (Nat.le_of_ble_eq_true rfl)⟩) (fun E ce q9 H locs hk hE hM hce hcv hcl => ?_) (fun H locs hk hM => ?_)
  · have hq := tw_if hq hk
    obtain ⟨rfl, h9⟩ := Prod.mk.inj (Option.some.inj hq)
    obtain ⟨rfl, rfl⟩ := Prod.mk.inj h9
    exact ct_out hex hlocks hk hE hM hce hcv hcl hQQ (Nat.le_of_ble_eq_true rfl) (Nat.le_of_ble_eq_true rfl)
  have hq := tw_it hq hk
  refine lv_aload_n hx hb dcX11_way_10 rfl (lv_at hl 0 rfl) ?_
  refine vgX11_14 hx hb hT hown hK hM hr0 dcX11_way_11 ?_
  refine vgX11_220 hx hb hT hown hK hM (cs_X11_0 hr0) dcX11_way_14 ?_
  refine lv_iload_n hx hb dcX11_way_17 rfl (lv_at hl 1 rfl) ?_
  refine uw_bald cX_ok hx hb hK hM (cr_X3_2 (cs_X11_0 hr0)) hq dcX11_way_18 (fun v5 hq => ?_)
  refine lv_iconst (v := 4) hx hb dcX11_way_19 (by decide) ?_
  refine lv_icmp_gt (tgt := 36) hx hb dcX11_way_20 (by decide) (fun hc => ?_) (fun hc => ?_)
  · have hq := tw_it hq hc
    obtain ⟨rfl, h9⟩ := Prod.mk.inj (Option.some.inj hq)
    obtain ⟨rfl, rfl⟩ := Prod.mk.inj h9
    exact ct_throwW (k := 4) (text := "more than 4 crossings") (cls := "java/lang/UnsupportedOperationException") hx hb hlt hown hex hlocks (by rw [hml]; exact hl.1.symm) hTh (List.mem_of_getElem? (i := 17) rfl) rfl (by decide) (by decide +kernel) (hts _ (List.mem_cons_of_mem _ wT_k4)) (hts _ (List.mem_cons_of_mem _ wT_i4)) (fun w h => hts w (List.mem_cons_of_mem _ (wT_4 w h))) th9_4 tg9_4 hM dcX11_way_36 dcX11_way_39 dcX11_way_40 dcX11_way_43 dcX11_way_46 hQQ (Nat.le_of_ble_eq_true rfl) (Nat.le_of_ble_eq_true rfl) (Nat.le_of_ble_eq_true rfl) (Nat.le_of_ble_eq_true rfl) (Nat.le_of_ble_eq_true rfl) (Nat.le_of_ble_eq_true rfl)
  · have hq := tw_if hq hc
    refine lv_aload_n hx hb dcX11_way_23 rfl (lv_at hl 0 rfl) ?_
    refine vgX11_14 hx hb hT hown hK hM hr0 dcX11_way_24 ?_
    refine vgX11_220 hx hb hT hown hK hM (cs_X11_0 hr0) dcX11_way_27 ?_
    refine lv_iload_n hx hb dcX11_way_30 rfl (lv_at hl 2 rfl) ?_
    refine uw_bald cX_ok hx hb hK hM (cr_X3_2 (cs_X11_0 hr0)) hq dcX11_way_31 (fun v6 hq => ?_)
    refine lv_iconst (v := 4) hx hb dcX11_way_32 (by decide) ?_
    refine lv_icmp_le (tgt := 47) hx hb dcX11_way_33 (by decide) (fun hc => ?_) (fun hc => ?_)
    · have hq := tw_it hq hc
      refine lv_aload_n hx hb dcX11_way_47 rfl (lv_at hl 0 rfl) ?_
      refine vgX11_14 hx hb hT hown hK hM hr0 dcX11_way_48 ?_
      refine lv_iload_n hx hb dcX11_way_51 rfl (lv_at hl 1 rfl) ?_
      refine lv_aload_n hx hb dcX11_way_52 rfl (lv_at hl 0 rfl) ?_
      refine vgX11_14 hx hb hT hown hK hM hr0 dcX11_way_53 ?_
      refine lv_iload_n hx hb dcX11_way_56 rfl (lv_at hl 2 rfl) ?_
      obtain ⟨v8, z7, hcq, hq⟩ := tw_cl1 hq
      refine uw_cali hU hM (va_runV (As := [.int x1, .ref (u (r0 + 1000)), .int x2]) (rest := []) ⟨hx, hb, hml, hown, hts⟩ (kc_X3_compare l D q vl u hU.1 K (r0 + 1000) x1 (r0 + 1000) x2 (cs_X11_0 hr0) (cs_X11_0 hr0) z3 z7 v8 hcq) (cwV 3 hts (tw_gV2 wT_good wT_C (wT_C _ xq_839) (wT_C _ xq_318) (wT_C _ xq_319) (wT_C _ xq_313) (wT_C _ xq_320)) rfl rfl rfl cdd_X3_compare ⟨(Nat.le_of_ble_eq_true rfl), (Nat.le_of_ble_eq_true rfl)⟩) (cw_preV hK hM (co_X3 (cs_X11_0 hr0)) rfl) rfl rfl hl.1 rfl (lv_room (Nat.le_of_ble_eq_true rfl)) dcX11_way_57 ⟨(Nat.le_of_ble_eq_true rfl), (Nat.le_of_ble_eq_true rfl)⟩) (fun H locs hM => ?_)
      refine lv_if_ne (tgt := 65) hx hb dcX11_way_60 (by decide) (fun hc => ?_) (fun hc => ?_)
      · have hq := tw_if hq hc
        refine lv_aload_n hx hb dcX11_way_65 rfl (lv_at hl 0 rfl) ?_
        refine vgX11_58 hx hb hT hown hK hM hr0 dcX11_way_66 ?_
        refine lv_aload_n hx hb dcX11_way_69 rfl (lv_at hl 0 rfl) ?_
        refine vgX11_14 hx hb hT hown hK hM hr0 dcX11_way_70 ?_
        refine lv_iload_n hx hb dcX11_way_73 rfl (lv_at hl 1 rfl) ?_
        refine lv_aload_n hx hb dcX11_way_74 rfl (lv_at hl 0 rfl) ?_
        refine vgX11_58 hx hb hT hown hK hM hr0 dcX11_way_75 ?_
        refine vgX11_305 hx hb hT hown hK hM (cs_X11_8 hr0) dcX11_way_78 ?_
        obtain ⟨z9, hcq, hq⟩ := tw_cl0 hq
        refine uw_calv hU hM (va_runV (As := [.ref (u (r0 + 1000)), .int x1, .ref (u ((r0 + 12000) + 2000))]) (rest := []) ⟨hx, hb, hml, hown, hts⟩ (kc_X6_surround l D q vl u hU.1 K (r0 + 12000) (r0 + 1000) x1 ((r0 + 12000) + 2000) (cs_X11_8 hr0) (cs_X11_0 hr0) (cs_X6_1 (cs_X11_8 hr0)) z7 z9 hcq) (cwV 3 hts (tw_gV2 wT_good wT_C (wT_C _ xq_884) (wT_C _ xq_885) (wT_C _ xq_886) (wT_C _ xq_146) (wT_C _ xq_566)) rfl rfl rfl cdd_X6_surround ⟨(Nat.le_of_ble_eq_true rfl), (Nat.le_of_ble_eq_true rfl)⟩) (cw_preV hK hM (co_X6 (cs_X11_8 hr0)) rfl) rfl rfl hl.1 rfl (lv_room (Nat.le_of_ble_eq_true rfl)) dcX11_way_81 ⟨(Nat.le_of_ble_eq_true rfl), (Nat.le_of_ble_eq_true rfl)⟩) (fun H locs hM => ?_)
        refine lv_aload_n hx hb dcX11_way_84 rfl (lv_at hl 0 rfl) ?_
        refine vgX11_58 hx hb hT hown hK hM hr0 dcX11_way_85 ?_
        refine vgX11_305 hx hb hT hown hK hM (cs_X11_8 hr0) dcX11_way_88 ?_
        refine lv_aload_n hx hb dcX11_way_91 rfl (lv_at hl 0 rfl) ?_
        refine vgX11_14 hx hb hT hown hK hM hr0 dcX11_way_92 ?_
        refine lv_iload_n hx hb dcX11_way_95 rfl (lv_at hl 2 rfl) ?_
        obtain ⟨v11, z10, hcq, hq⟩ := tw_cl1 hq
        refine uw_cali hU hM (va_runV (As := [.ref (u (r0 + 1000)), .int x2]) (rest := []) ⟨hx, hb, hml, hown, hts⟩ (kc_X3_find l D q vl u hU.1 K ((r0 + 12000) + 2000) (r0 + 1000) x2 (cs_X6_1 (cs_X11_8 hr0)) (cs_X11_0 hr0) z9 z10 v11 hcq) (cwV 2 hts (tw_gV2 wT_good wT_C (wT_C _ xq_887) (wT_C _ xq_311) (wT_C _ xq_312) (wT_C _ xq_313) (wT_C _ xq_314)) rfl rfl rfl cdd_X3_find ⟨(Nat.le_of_ble_eq_true rfl), (Nat.le_of_ble_eq_true rfl)⟩) (cw_preV hK hM (co_X3 (cs_X6_1 (cs_X11_8 hr0))) rfl) rfl rfl hl.1 rfl (lv_room (Nat.le_of_ble_eq_true rfl)) dcX11_way_96 ⟨(Nat.le_of_ble_eq_true rfl), (Nat.le_of_ble_eq_true rfl)⟩) (fun H locs hM => ?_)
        refine lv_if_lt (tgt := 104) hx hb dcX11_way_99 (by decide) (fun hc => ?_) (fun hc => ?_)
        · have hq := tw_it hq hc
          refine lv_aload_n hx hb dcX11_way_104 rfl (lv_at hl 0 rfl) ?_
          refine vgX11_58 hx hb hT hown hK hM hr0 dcX11_way_105 ?_
          refine lv_aload_n hx hb dcX11_way_108 rfl (lv_at hl 0 rfl) ?_
          refine vgX11_14 hx hb hT hown hK hM hr0 dcX11_way_109 ?_
          refine lv_iload_n hx hb dcX11_way_112 rfl (lv_at hl 2 rfl) ?_
          refine lv_aload_n hx hb dcX11_way_113 rfl (lv_at hl 0 rfl) ?_
          refine vgX11_58 hx hb hT hown hK hM hr0 dcX11_way_114 ?_
          refine vgX11_315 hx hb hT hown hK hM (cs_X11_8 hr0) dcX11_way_117 ?_
          obtain ⟨z12, hcq, hq⟩ := tw_cl0 hq
          refine uw_calv hU hM (va_runV (As := [.ref (u (r0 + 1000)), .int x2, .ref (u ((r0 + 12000) + 3000))]) (rest := []) ⟨hx, hb, hml, hown, hts⟩ (kc_X6_surround l D q vl u hU.1 K (r0 + 12000) (r0 + 1000) x2 ((r0 + 12000) + 3000) (cs_X11_8 hr0) (cs_X11_0 hr0) (cs_X6_2 (cs_X11_8 hr0)) z10 z12 hcq) (cwV 3 hts (tw_gV2 wT_good wT_C (wT_C _ xq_884) (wT_C _ xq_885) (wT_C _ xq_886) (wT_C _ xq_146) (wT_C _ xq_566)) rfl rfl rfl cdd_X6_surround ⟨(Nat.le_of_ble_eq_true rfl), (Nat.le_of_ble_eq_true rfl)⟩) (cw_preV hK hM (co_X6 (cs_X11_8 hr0)) rfl) rfl rfl hl.1 rfl (lv_room (Nat.le_of_ble_eq_true rfl)) dcX11_way_120 ⟨(Nat.le_of_ble_eq_true rfl), (Nat.le_of_ble_eq_true rfl)⟩) (fun H locs hM => ?_)
          refine lv_aload_n hx hb dcX11_way_123 rfl (lv_at hl 0 rfl) ?_
          refine vgX11_58 hx hb hT hown hK hM hr0 dcX11_way_124 ?_
          refine vgX11_305 hx hb hT hown hK hM (cs_X11_8 hr0) dcX11_way_127 ?_
          refine lv_aload_n hx hb dcX11_way_130 rfl (lv_at hl 0 rfl) ?_
          refine vgX11_58 hx hb hT hown hK hM hr0 dcX11_way_131 ?_
          refine vgX11_315 hx hb hT hown hK hM (cs_X11_8 hr0) dcX11_way_134 ?_
          obtain ⟨v14, z13, hcq, hq⟩ := tw_cl1 hq
          refine uw_cali hU hM (va_runV (As := [.ref (u ((r0 + 12000) + 3000))]) (rest := []) ⟨hx, hb, hml, hown, hts⟩ (kc_X3_meets l D q vl u hU.1 K ((r0 + 12000) + 2000) ((r0 + 12000) + 3000) (cs_X6_1 (cs_X11_8 hr0)) (cs_X6_2 (cs_X11_8 hr0)) z12 z13 v14 hcq) (cwV 1 hts (tw_gV2 wT_good wT_C (wT_C _ xq_888) (wT_C _ xq_889) (wT_C _ xq_890) (wT_C _ xq_313) (wT_C _ xq_338)) rfl rfl rfl cdd_X3_meets ⟨(Nat.le_of_ble_eq_true rfl), (Nat.le_of_ble_eq_true rfl)⟩) (cw_preV hK hM (co_X3 (cs_X6_1 (cs_X11_8 hr0))) rfl) rfl rfl hl.1 rfl (lv_room (Nat.le_of_ble_eq_true rfl)) dcX11_way_137 ⟨(Nat.le_of_ble_eq_true rfl), (Nat.le_of_ble_eq_true rfl)⟩) (fun H locs hM => ?_)
          refine lv_if_eq (tgt := 147) hx hb dcX11_way_140 (by decide) (fun hc => ?_) (fun hc => ?_)
          · have hq := tw_it hq hc
            refine lv_iconst (v := (-1)) hx hb dcX11_way_147 (by decide) ?_
            exact ct_iret hx hb hr hlocks hM hq hQQ (Nat.le_of_ble_eq_true rfl) (Nat.le_of_ble_eq_true rfl) dcX11_way_148
          · have hq := tw_if hq hc
            refine lv_iconst (v := 2) hx hb dcX11_way_143 (by decide) ?_
            refine lv_goto (tgt := 148) hx hb dcX11_way_144 (by decide) ?_
            exact ct_iret hx hb hr hlocks hM hq hQQ (Nat.le_of_ble_eq_true rfl) (Nat.le_of_ble_eq_true rfl) dcX11_way_148
        · have hq := tw_if hq hc
          refine lv_iconst (v := 1) hx hb dcX11_way_102 (by decide) ?_
          exact ct_iret hx hb hr hlocks hM hq hQQ (Nat.le_of_ble_eq_true rfl) (Nat.le_of_ble_eq_true rfl) dcX11_way_103
      · have hq := tw_it hq hc
        refine lv_iconst (v := 0) hx hb dcX11_way_63 (by decide) ?_
        exact ct_iret hx hb hr hlocks hM hq hQQ (Nat.le_of_ble_eq_true rfl) (Nat.le_of_ble_eq_true rfl) dcX11_way_64
    · have hq := tw_if hq hc
      obtain ⟨rfl, h9⟩ := Prod.mk.inj (Option.some.inj hq)
      obtain ⟨rfl, rfl⟩ := Prod.mk.inj h9
      exact ct_throwW (k := 4) (text := "more than 4 crossings") (cls := "java/lang/UnsupportedOperationException") hx hb hlt hown hex hlocks (by rw [hml]; exact hl.1.symm) hTh (List.mem_of_getElem? (i := 17) rfl) rfl (by decide) (by decide +kernel) (hts _ (List.mem_cons_of_mem _ wT_k4)) (hts _ (List.mem_cons_of_mem _ wT_i4)) (fun w h => hts w (List.mem_cons_of_mem _ (wT_4 w h))) th9_4 tg9_4 hM dcX11_way_36 dcX11_way_39 dcX11_way_40 dcX11_way_43 dcX11_way_46 hQQ (Nat.le_of_ble_eq_true rfl) (Nat.le_of_ble_eq_true rfl) (Nat.le_of_ble_eq_true rfl) (Nat.le_of_ble_eq_true rfl) (Nat.le_of_ble_eq_true rfl) (Nat.le_of_ble_eq_true rfl)
theorem dcX11_summands_0 : decode cX11_summands 0 = .ok (.aload_n 0, 1) := dw_at cX11_summands_k0 (p := 0) rfl (by decide +kernel)
theorem dcX11_summands_1 : decode cX11_summands 1 = .ok (.iload_n 1, 1) := dw_at cX11_summands_k0 (p := 1) rfl (by decide +kernel)
theorem dcX11_summands_2 : decode cX11_summands 2 = .ok (.invokevirtual 189, 3) := dw_at cX11_summands_k0 (p := 2) rfl (by decide +kernel)
theorem dcX11_summands_5 : decode cX11_summands 5 = .ok (.aload_n 0, 1) := dw_at cX11_summands_k0 (p := 5) rfl (by decide +kernel)
theorem dcX11_summands_6 : decode cX11_summands 6 = .ok (.getfield 27, 3) := dw_at cX11_summands_k0 (p := 6) rfl (by decide +kernel)
theorem dcX11_summands_9 : decode cX11_summands 9 = .ok (.aload_n 0, 1) := dw_at cX11_summands_k0 (p := 9) rfl (by decide +kernel)
theorem dcX11_summands_10 : decode cX11_summands 10 = .ok (.getfield 14, 3) := dw_at cX11_summands_k0 (p := 10) rfl (by decide +kernel)
theorem dcX11_summands_13 : decode cX11_summands 13 = .ok (.iload_n 1, 1) := dw_at cX11_summands_k0 (p := 13) rfl (by decide +kernel)
theorem dcX11_summands_14 : decode cX11_summands 14 = .ok (.invokevirtual 194, 3) := dw_at cX11_summands_k0 (p := 14) rfl (by decide +kernel)
theorem dcX11_summands_17 : decode cX11_summands 17 = .ok (.aload_n 0, 1) := dw_at cX11_summands_k0 (p := 17) rfl (by decide +kernel)
theorem dcX11_summands_18 : decode cX11_summands 18 = .ok (.getfield 27, 3) := dw_at cX11_summands_k0 (p := 18) rfl (by decide +kernel)
theorem dcX11_summands_21 : decode cX11_summands 21 = .ok (.invokevirtual 322, 3) := dw_at cX11_summands_k0 (p := 21) rfl (by decide +kernel)
theorem dcX11_summands_24 : decode cX11_summands 24 = .ok (.aload_n 0, 1) := dw_at cX11_summands_k1 (p := 0) rfl (by decide +kernel)
theorem dcX11_summands_25 : decode cX11_summands 25 = .ok (.getfield 44, 3) := dw_at cX11_summands_k1 (p := 1) rfl (by decide +kernel)
theorem dcX11_summands_28 : decode cX11_summands 28 = .ok (.aload_n 0, 1) := dw_at cX11_summands_k1 (p := 4) rfl (by decide +kernel)
theorem dcX11_summands_29 : decode cX11_summands 29 = .ok (.getfield 27, 3) := dw_at cX11_summands_k1 (p := 5) rfl (by decide +kernel)
theorem dcX11_summands_32 : decode cX11_summands 32 = .ok (.aload_n 0, 1) := dw_at cX11_summands_k1 (p := 8) rfl (by decide +kernel)
theorem dcX11_summands_33 : decode cX11_summands 33 = .ok (.getfield 21, 3) := dw_at cX11_summands_k1 (p := 9) rfl (by decide +kernel)
theorem dcX11_summands_36 : decode cX11_summands 36 = .ok (.invokevirtual 325, 3) := dw_at cX11_summands_k1 (p := 12) rfl (by decide +kernel)
theorem dcX11_summands_39 : decode cX11_summands 39 = .ok (.aload_n 0, 1) := dw_at cX11_summands_k1 (p := 15) rfl (by decide +kernel)
theorem dcX11_summands_40 : decode cX11_summands 40 = .ok (.getfield 21, 3) := dw_at cX11_summands_k1 (p := 16) rfl (by decide +kernel)
theorem dcX11_summands_43 : decode cX11_summands 43 = .ok (.getfield 283, 3) := dw_at cX11_summands_k1 (p := 19) rfl (by decide +kernel)
theorem dcX11_summands_46 : decode cX11_summands 46 = .ok (.ireturn, 1) := dw_at cX11_summands_k1 (p := 22) rfl (by decide +kernel)
def cm_X11_summands_0 (vl : Nat → Nat) (K : Nat) (x1 : Int32) (r0 : Nat) (z : ow_MS) : Option (Nat × Int32 × ow_MS) :=
 tc0 (ce_X11_needDiagram vl K r0 x1 z) (fun k z => some (k, 0, z)) fun z1 => cs0 (ce_X7_load vl K (r0 + 4000) (r0 + 1000) x1 z1) fun z3 => cs0 (ce_X7_partAll vl K (r0 + 4000) z3) fun z4 => cs0 (ce_X2_collectParts vl K (r0 + 7000) (r0 + 4000) (r0 + 3000) z4) fun z5 => rdF z5 ((r0 + 3000) + 5) fun v6 => some (0, v6, z5)
def ce_X11_summands (vl : Nat → Nat) (K : Nat) (r0 : Nat) (x1 : Int32) (z : ow_MS) : Option (Nat × Int32 × ow_MS) := cm_X11_summands_0 vl K x1 r0 z
abbrev wc_X11_summands : List Cond := .code yX11_summands cX11_summands 2 (some .int) :: wT
theorem cdd_X11_summands : yX11_summands.cls = RX11 ∧ yX11_summands.cls ≠ "java/lang/invoke/MethodHandle" ∧ yX11_summands.cls ≠ "java/lang/invoke/VarHandle" ∧ (parseMethodDescriptor yX11_summands.desc).map (fun d => d.parameters.length) = some 1 := by decide +kernel
set_option maxHeartbeats 4000000 in
set_option maxRecDepth 100000 in
theorem kc_X11_summands (l : Launch) (D : va_G) (q : Nat → ClassId) (vl u : Nat → Nat) (hU0 : tw_inj (cX vl) u) (hlt : l.stackTraces = false) (sa : Nat → Nat) (K : Nat) (r0 : Nat) (x1 : Int32) (hr0 : cw_X11 r0) (z z1 : ow_MS) (k9 : Nat) (r : Int32) (hq : ce_X11_summands vl K r0 x1 z = some (k9, r, z1)) : vx_Met l yX11_summands wc_X11_summands ({ frames := 7, cells := 1, slots := 6, locals := 130 } : Room) (va_Pc [.ref (u r0), .int x1] (cw_preT D q vl u sa z)) (va_Qi (fun x (_ : Unit) => k9 = 0 ∧ x = r) (fun _ t => va_P D vwCl (uw (cX vl) q u z1) t.heap) (tw_A (cX vl) u)) (ct_X D q vl u k9 z1) 1 6 (tw_A (cX vl) u) := by
  refine vx_ofW (cc := cX11_summands) (maxL := 2) (ret := (some .int)) (by decide) rfl ?_
  intro p e s m args below meth c s₁ B hml hex hv
  obtain ⟨rfl, hP, hK, hTh⟩ := hv
  have hx := B.exec
  have hb := B.bytes
  have hr := B.returns
  have hts := atoms_spec (ws := wc_X11_summands) B.pre
  have hT : ∀ w ∈ wC, w.before ([.ref (u r0), .int x1] : List Value).toArray s = true := fun w h => hts w (List.mem_cons_of_mem _ (wT_C w h))
  have hown : s.vm.findClass RX11 = some m.cls := findClass_of_methodNamed B.named
  have hlocks := B.notSynchronized
  have hU : uw_inj (cX vl) u (tw_A (cX vl) u) := ⟨hU0, fun h hh => ⟨h, hh, rfl⟩⟩
  have hM : uw_M D vwCl (cX vl) q (tw_A (cX vl) u) s.heap u z s.heap [] := ⟨hP, va_S.rf⟩
  have hl := lv_entry ([.ref (u r0), .int x1]) (n := 2) (Nat.le_of_ble_eq_true rfl)
  rw [lg_entry_eq]
  generalize (lg_sl ([.ref (u r0), .int x1]) ++ List.replicate (2 - (lg_sl ([.ref (u r0), .int x1])).length) Slot.unset).toArray = ls at hl ⊢
  have hl : lv_has ls 2 [(0, .ref (u r0)), (1, .int x1)] := hl
  refine ow_named (fun QQ hQQ => ?_)
  generalize ([.ref (u r0), .int x1] : List Value).toArray = args at hts hT hQQ ⊢
  have hq : cm_X11_summands_0 vl K x1 r0 z = some (k9, r, z1) := hq
  unfold cm_X11_summands_0 at hq
  suffices key : ∀ (H : Heap) (locs : List Loc), uw_M D vwCl (cX vl) q (tw_A (cX vl) u) s.heap u z H locs → W p l e ({ frames := 7, cells := 1, slots := 6, locals := 130 } : Room) s m args below meth c H locs 0 0 QQ (F0 m 0 ls []) from key s.heap [] hM
  intro H locs hM
  refine lv_aload_n hx hb dcX11_summands_0 rfl (lv_at hl 0 rfl) ?_
  refine lv_iload_n hx hb dcX11_summands_1 rfl (lv_at hl 1 rfl) ?_
  obtain ⟨k2, z1, hcq, hq⟩ := ct_tc0 hq
  refine ct_calv hU hM (vx_runV (As := [.int x1]) (rest := []) ⟨hx, hb, hml, hown, hts⟩ (kc_X11_needDiagram l D q vl u hU.1 hlt sa K r0 x1 hr0 z z1 k2 hcq) (cwV 1 hts (tw_gV2 wT_good (fun _ h => h) (wT_C _ xq_818) (wT_C _ xq_819) (wT_C _ xq_820) (wT_C _ xq_773) (wT_C _ xq_807)) rfl rfl rfl cdd_X11_needDiagram ⟨(Nat.le_of_ble_eq_true rfl), (Nat.le_of_ble_eq_true rfl)⟩) (ct_preV hK hTh hM (co_X11 hr0) rfl) rfl rfl hl.1 rfl (lv_room (Nat.le_of_ble_eq_true rfl)) dcX11_summands_2 ⟨(Nat.le_of_ble_eq_true rfl), (Nat.le_of_ble_eq_true rfl)⟩) (fun E ce q9 H locs hk hE hM hce hcv hcl => ?_) (fun H locs hk hM => ?_)
  · have hq := tw_if hq hk
    obtain ⟨rfl, h9⟩ := Prod.mk.inj (Option.some.inj hq)
    obtain ⟨rfl, rfl⟩ := Prod.mk.inj h9
    exact ct_out hex hlocks hk hE hM hce hcv hcl hQQ (Nat.le_of_ble_eq_true rfl) (Nat.le_of_ble_eq_true rfl)
  have hq := tw_it hq hk
  refine lv_aload_n hx hb dcX11_summands_5 rfl (lv_at hl 0 rfl) ?_
  refine vgX11_27 hx hb hT hown hK hM hr0 dcX11_summands_6 ?_
  refine lv_aload_n hx hb dcX11_summands_9 rfl (lv_at hl 0 rfl) ?_
  refine vgX11_14 hx hb hT hown hK hM hr0 dcX11_summands_10 ?_
  refine lv_iload_n hx hb dcX11_summands_13 rfl (lv_at hl 1 rfl) ?_
  obtain ⟨z3, hcq, hq⟩ := tw_cl0 hq
  refine uw_calv hU hM (va_runV (As := [.ref (u (r0 + 1000)), .int x1]) (rest := []) ⟨hx, hb, hml, hown, hts⟩ (kc_X7_load l D q vl u hU.1 K (r0 + 4000) (r0 + 1000) x1 (cs_X11_3 hr0) (cs_X11_0 hr0) z1 z3 hcq) (cwV 2 hts (tw_gV2 wT_good wT_C (wT_C _ xq_821) (wT_C _ xq_468) (wT_C _ xq_469) (wT_C _ xq_54) (wT_C _ xq_470)) rfl rfl rfl cdd_X7_load ⟨(Nat.le_of_ble_eq_true rfl), (Nat.le_of_ble_eq_true rfl)⟩) (cw_preV hK hM (co_X7 (cs_X11_3 hr0)) rfl) rfl rfl hl.1 rfl (lv_room (Nat.le_of_ble_eq_true rfl)) dcX11_summands_14 ⟨(Nat.le_of_ble_eq_true rfl), (Nat.le_of_ble_eq_true rfl)⟩) (fun H locs hM => ?_)
  refine lv_aload_n hx hb dcX11_summands_17 rfl (lv_at hl 0 rfl) ?_
  refine vgX11_27 hx hb hT hown hK hM hr0 dcX11_summands_18 ?_
  obtain ⟨z4, hcq, hq⟩ := tw_cl0 hq
  refine uw_calv hU hM (va_runV (As := []) (rest := []) ⟨hx, hb, hml, hown, hts⟩ (kc_X7_partAll l D q vl u hU.1 K (r0 + 4000) (cs_X11_3 hr0) z3 z4 hcq) (cwV 0 hts (tw_gV2 wT_good wT_C (wT_C _ xq_893) (wT_C _ xq_894) (wT_C _ xq_895) (wT_C _ xq_54) (wT_C _ xq_588)) rfl rfl rfl cdd_X7_partAll ⟨(Nat.le_of_ble_eq_true rfl), (Nat.le_of_ble_eq_true rfl)⟩) (cw_preV hK hM (co_X7 (cs_X11_3 hr0)) rfl) rfl rfl hl.1 rfl (lv_room (Nat.le_of_ble_eq_true rfl)) dcX11_summands_21 ⟨(Nat.le_of_ble_eq_true rfl), (Nat.le_of_ble_eq_true rfl)⟩) (fun H locs hM => ?_)
  refine lv_aload_n hx hb dcX11_summands_24 rfl (lv_at hl 0 rfl) ?_
  refine vgX11_44 hx hb hT hown hK hM hr0 dcX11_summands_25 ?_
  refine lv_aload_n hx hb dcX11_summands_28 rfl (lv_at hl 0 rfl) ?_
  refine vgX11_27 hx hb hT hown hK hM hr0 dcX11_summands_29 ?_
  refine lv_aload_n hx hb dcX11_summands_32 rfl (lv_at hl 0 rfl) ?_
  refine vgX11_21 hx hb hT hown hK hM hr0 dcX11_summands_33 ?_
  obtain ⟨z5, hcq, hq⟩ := tw_cl0 hq
  refine uw_calv hU hM (va_runV (As := [.ref (u (r0 + 4000)), .ref (u (r0 + 3000))]) (rest := []) ⟨hx, hb, hml, hown, hts⟩ (kc_X2_collectParts l D q vl u hU.1 K (r0 + 7000) (r0 + 4000) (r0 + 3000) (cs_X11_6 hr0) (cs_X11_3 hr0) (cs_X11_2 hr0) z4 z5 hcq) (cwV 2 hts (tw_gV2 wT_good wT_C (wT_C _ xq_896) (wT_C _ xq_281) (wT_C _ xq_282) (wT_C _ xq_283) (wT_C _ xq_284)) rfl rfl rfl cdd_X2_collectParts ⟨(Nat.le_of_ble_eq_true rfl), (Nat.le_of_ble_eq_true rfl)⟩) (cw_preV hK hM (co_X2 (cs_X11_6 hr0)) rfl) rfl rfl hl.1 rfl (lv_room (Nat.le_of_ble_eq_true rfl)) dcX11_summands_36 ⟨(Nat.le_of_ble_eq_true rfl), (Nat.le_of_ble_eq_true rfl)⟩) (fun H locs hM => ?_)
  refine lv_aload_n hx hb dcX11_summands_39 rfl (lv_at hl 0 rfl) ?_
  refine vgX11_21 hx hb hT hown hK hM hr0 dcX11_summands_40 ?_
  refine vgX11_283 hx hb hT hown hK hM (cs_X11_2 hr0) hq dcX11_summands_43 (fun v6 hq => ?_)
  exact ct_iret hx hb hr hlocks hM hq hQQ (Nat.le_of_ble_eq_true rfl) (Nat.le_of_ble_eq_true rfl) dcX11_summands_46
theorem dcX11_summand_0 : decode cX11_summand 0 = .ok (.aload_n 0, 1) := by decide +kernel
theorem dcX11_summand_1 : decode cX11_summand 1 = .ok (.aload_n 0, 1) := by decide +kernel
theorem dcX11_summand_2 : decode cX11_summand 2 = .ok (.getfield 21, 3) := by decide +kernel
theorem dcX11_summand_5 : decode cX11_summand 5 = .ok (.iload_n 1, 1) := by decide +kernel
theorem dcX11_summand_6 : decode cX11_summand 6 = .ok (.invokevirtual 290, 3) := by decide +kernel
theorem dcX11_summand_9 : decode cX11_summand 9 = .ok (.ireturn, 1) := by decide +kernel
def cm_X11_summand_0 (vl : Nat → Nat) (K : Nat) (x1 : Int32) (r0 : Nat) (z : ow_MS) : Option (Nat × Int32 × ow_MS) :=
 tc1 (ce_X11_copyOut vl K r0 (r0 + 3000) x1 z) (fun k z => some (k, 0, z)) fun v3 z1 => some (0, v3, z1)
def ce_X11_summand (vl : Nat → Nat) (K : Nat) (r0 : Nat) (x1 : Int32) (z : ow_MS) : Option (Nat × Int32 × ow_MS) := cm_X11_summand_0 vl K x1 r0 z
abbrev wc_X11_summand : List Cond := .code yX11_summand cX11_summand 2 (some .int) :: wT
theorem cdd_X11_summand : yX11_summand.cls = RX11 ∧ yX11_summand.cls ≠ "java/lang/invoke/MethodHandle" ∧ yX11_summand.cls ≠ "java/lang/invoke/VarHandle" ∧ (parseMethodDescriptor yX11_summand.desc).map (fun d => d.parameters.length) = some 1 := by decide +kernel
set_option maxHeartbeats 4000000 in
set_option maxRecDepth 100000 in
theorem kc_X11_summand (l : Launch) (D : va_G) (q : Nat → ClassId) (vl u : Nat → Nat) (hU0 : tw_inj (cX vl) u) (hlt : l.stackTraces = false) (sa : Nat → Nat) (K : Nat) (r0 : Nat) (x1 : Int32) (hr0 : cw_X11 r0) (z z1 : ow_MS) (k9 : Nat) (r : Int32) (hq : ce_X11_summand vl K r0 x1 z = some (k9, r, z1)) : vx_Met l yX11_summand wc_X11_summand ({ frames := 8, cells := 2, slots := 12, locals := 134 } : Room) (va_Pc [.ref (u r0), .int x1] (cw_preT D q vl u sa z)) (va_Qi (fun x (_ : Unit) => k9 = 0 ∧ x = r) (fun _ t => va_P D vwCl (uw (cX vl) q u z1) t.heap) (tw_A (cX vl) u)) (ct_X D q vl u k9 z1) 2 12 (tw_A (cX vl) u) := by
  refine vx_ofW (cc := cX11_summand) (maxL := 2) (ret := (some .int)) (by decide) rfl ?_
  intro p e s m args below meth c s₁ B hml hex hv
  obtain ⟨rfl, hP, hK, hTh⟩ := hv
  have hx := B.exec
  have hb := B.bytes
  have hr := B.returns
  have hts := atoms_spec (ws := wc_X11_summand) B.pre
  have hT : ∀ w ∈ wC, w.before ([.ref (u r0), .int x1] : List Value).toArray s = true := fun w h => hts w (List.mem_cons_of_mem _ (wT_C w h))
  have hown : s.vm.findClass RX11 = some m.cls := findClass_of_methodNamed B.named
  have hlocks := B.notSynchronized
  have hU : uw_inj (cX vl) u (tw_A (cX vl) u) := ⟨hU0, fun h hh => ⟨h, hh, rfl⟩⟩
  have hM : uw_M D vwCl (cX vl) q (tw_A (cX vl) u) s.heap u z s.heap [] := ⟨hP, va_S.rf⟩
  have hl := lv_entry ([.ref (u r0), .int x1]) (n := 2) (Nat.le_of_ble_eq_true rfl)
  rw [lg_entry_eq]
  generalize (lg_sl ([.ref (u r0), .int x1]) ++ List.replicate (2 - (lg_sl ([.ref (u r0), .int x1])).length) Slot.unset).toArray = ls at hl ⊢
  have hl : lv_has ls 2 [(0, .ref (u r0)), (1, .int x1)] := hl
  refine ow_named (fun QQ hQQ => ?_)
  generalize ([.ref (u r0), .int x1] : List Value).toArray = args at hts hT hQQ ⊢
  have hq : cm_X11_summand_0 vl K x1 r0 z = some (k9, r, z1) := hq
  unfold cm_X11_summand_0 at hq
  suffices key : ∀ (H : Heap) (locs : List Loc), uw_M D vwCl (cX vl) q (tw_A (cX vl) u) s.heap u z H locs → W p l e ({ frames := 8, cells := 2, slots := 12, locals := 134 } : Room) s m args below meth c H locs 0 0 QQ (F0 m 0 ls []) from key s.heap [] hM
  intro H locs hM
  refine lv_aload_n hx hb dcX11_summand_0 rfl (lv_at hl 0 rfl) ?_
  refine lv_aload_n hx hb dcX11_summand_1 rfl (lv_at hl 0 rfl) ?_
  refine vgX11_21 hx hb hT hown hK hM hr0 dcX11_summand_2 ?_
  refine lv_iload_n hx hb dcX11_summand_5 rfl (lv_at hl 1 rfl) ?_
  obtain ⟨k2, v3, z1, hcq, hq⟩ := ct_tc1 hq
  refine ct_cali hU hM (vx_runV (As := [.ref (u (r0 + 3000)), .int x1]) (rest := []) ⟨hx, hb, hml, hown, hts⟩ (kc_X11_copyOut l D q vl u hU.1 hlt sa K r0 (r0 + 3000) x1 hr0 (cs_X11_2 hr0) z z1 k2 v3 hcq) (cwV 2 hts (tw_gV2 wT_good (fun _ h => h) (wT_C _ xq_871) (wT_C _ xq_872) (wT_C _ xq_873) (wT_C _ xq_773) (wT_C _ xq_874)) rfl rfl rfl cdd_X11_copyOut ⟨(Nat.le_of_ble_eq_true rfl), (Nat.le_of_ble_eq_true rfl)⟩) (ct_preV hK hTh hM (co_X11 hr0) rfl) rfl rfl hl.1 rfl (lv_room (Nat.le_of_ble_eq_true rfl)) dcX11_summand_6 ⟨(Nat.le_of_ble_eq_true rfl), (Nat.le_of_ble_eq_true rfl)⟩) (fun E ce q9 H locs hk hE hM hce hcv hcl => ?_) (fun H locs hk hM => ?_)
  · have hq := tw_if hq hk
    obtain ⟨rfl, h9⟩ := Prod.mk.inj (Option.some.inj hq)
    obtain ⟨rfl, rfl⟩ := Prod.mk.inj h9
    exact ct_out hex hlocks hk hE hM hce hcv hcl hQQ (Nat.le_of_ble_eq_true rfl) (Nat.le_of_ble_eq_true rfl)
  have hq := tw_it hq hk
  exact ct_iret hx hb hr hlocks hM hq hQQ (Nat.le_of_ble_eq_true rfl) (Nat.le_of_ble_eq_true rfl) dcX11_summand_9
theorem dcX11_conway_0 : decode cX11_conway 0 = .ok (.aload_n 0, 1) := by decide +kernel
theorem dcX11_conway_1 : decode cX11_conway 1 = .ok (.iload_n 1, 1) := by decide +kernel
theorem dcX11_conway_2 : decode cX11_conway 2 = .ok (.invokevirtual 189, 3) := by decide +kernel
theorem dcX11_conway_5 : decode cX11_conway 5 = .ok (.aload_n 0, 1) := by decide +kernel
theorem dcX11_conway_6 : decode cX11_conway 6 = .ok (.getfield 65, 3) := by decide +kernel
theorem dcX11_conway_9 : decode cX11_conway 9 = .ok (.aload_n 0, 1) := by decide +kernel
theorem dcX11_conway_10 : decode cX11_conway 10 = .ok (.getfield 14, 3) := by decide +kernel
theorem dcX11_conway_13 : decode cX11_conway 13 = .ok (.iload_n 1, 1) := by decide +kernel
theorem dcX11_conway_14 : decode cX11_conway 14 = .ok (.invokevirtual 329, 3) := by decide +kernel
theorem dcX11_conway_17 : decode cX11_conway 17 = .ok (.aload_n 0, 1) := by decide +kernel
theorem dcX11_conway_18 : decode cX11_conway 18 = .ok (.getfield 65, 3) := by decide +kernel
theorem dcX11_conway_21 : decode cX11_conway 21 = .ok (.iload_n 2, 1) := by decide +kernel
theorem dcX11_conway_22 : decode cX11_conway 22 = .ok (.invokevirtual 332, 3) := by decide +kernel
theorem dcX11_conway_25 : decode cX11_conway 25 = .ok (.ireturn, 1) := by decide +kernel
def cm_X11_conway_0 (vl : Nat → Nat) (K : Nat) (x1 : Int32) (x2 : Int32) (r0 : Nat) (z : ow_MS) : Option (Nat × Int32 × ow_MS) :=
 tc0 (ce_X11_needDiagram vl K r0 x1 z) (fun k z => some (k, 0, z)) fun z1 => cs0 (ce_X8_unfoldCode vl K (r0 + 24000) (r0 + 1000) x1 z1) fun z3 => cs1 (ce_X8_conwayAt vl K (r0 + 24000) x2 z3) fun v5 z4 => some (0, v5, z4)
def ce_X11_conway (vl : Nat → Nat) (K : Nat) (r0 : Nat) (x1 : Int32) (x2 : Int32) (z : ow_MS) : Option (Nat × Int32 × ow_MS) := cm_X11_conway_0 vl K x1 x2 r0 z
abbrev wc_X11_conway : List Cond := .code yX11_conway cX11_conway 3 (some .int) :: wT
theorem cdd_X11_conway : yX11_conway.cls = RX11 ∧ yX11_conway.cls ≠ "java/lang/invoke/MethodHandle" ∧ yX11_conway.cls ≠ "java/lang/invoke/VarHandle" ∧ (parseMethodDescriptor yX11_conway.desc).map (fun d => d.parameters.length) = some 2 := by decide +kernel
set_option maxHeartbeats 4000000 in
set_option maxRecDepth 100000 in
theorem kc_X11_conway (l : Launch) (D : va_G) (q : Nat → ClassId) (vl u : Nat → Nat) (hU0 : tw_inj (cX vl) u) (hlt : l.stackTraces = false) (sa : Nat → Nat) (K : Nat) (r0 : Nat) (x1 : Int32) (x2 : Int32) (hr0 : cw_X11 r0) (z z1 : ow_MS) (k9 : Nat) (r : Int32) (hq : ce_X11_conway vl K r0 x1 x2 z = some (k9, r, z1)) : vx_Met l yX11_conway wc_X11_conway ({ frames := 21, cells := 1, slots := 6, locals := 668 } : Room) (va_Pc [.ref (u r0), .int x1, .int x2] (cw_preT D q vl u sa z)) (va_Qi (fun x (_ : Unit) => k9 = 0 ∧ x = r) (fun _ t => va_P D vwCl (uw (cX vl) q u z1) t.heap) (tw_A (cX vl) u)) (ct_X D q vl u k9 z1) 1 6 (tw_A (cX vl) u) := by
  refine vx_ofW (cc := cX11_conway) (maxL := 3) (ret := (some .int)) (by decide) rfl ?_
  intro p e s m args below meth c s₁ B hml hex hv
  obtain ⟨rfl, hP, hK, hTh⟩ := hv
  have hx := B.exec
  have hb := B.bytes
  have hr := B.returns
  have hts := atoms_spec (ws := wc_X11_conway) B.pre
  have hT : ∀ w ∈ wC, w.before ([.ref (u r0), .int x1, .int x2] : List Value).toArray s = true := fun w h => hts w (List.mem_cons_of_mem _ (wT_C w h))
  have hown : s.vm.findClass RX11 = some m.cls := findClass_of_methodNamed B.named
  have hlocks := B.notSynchronized
  have hU : uw_inj (cX vl) u (tw_A (cX vl) u) := ⟨hU0, fun h hh => ⟨h, hh, rfl⟩⟩
  have hM : uw_M D vwCl (cX vl) q (tw_A (cX vl) u) s.heap u z s.heap [] := ⟨hP, va_S.rf⟩
  have hl := lv_entry ([.ref (u r0), .int x1, .int x2]) (n := 3) (Nat.le_of_ble_eq_true rfl)
  rw [lg_entry_eq]
  generalize (lg_sl ([.ref (u r0), .int x1, .int x2]) ++ List.replicate (3 - (lg_sl ([.ref (u r0), .int x1, .int x2])).length) Slot.unset).toArray = ls at hl ⊢
  have hl : lv_has ls 3 [(0, .ref (u r0)), (1, .int x1), (2, .int x2)] := hl
  refine ow_named (fun QQ hQQ => ?_)
  generalize ([.ref (u r0), .int x1, .int x2] : List Value).toArray = args at hts hT hQQ ⊢
  have hq : cm_X11_conway_0 vl K x1 x2 r0 z = some (k9, r, z1) := hq
  unfold cm_X11_conway_0 at hq
  suffices key : ∀ (H : Heap) (locs : List Loc), uw_M D vwCl (cX vl) q (tw_A (cX vl) u) s.heap u z H locs → W p l e ({ frames := 21, cells := 1, slots := 6, locals := 668 } : Room) s m args below meth c H locs 0 0 QQ (F0 m 0 ls []) from key s.heap [] hM
  intro H locs hM
  refine lv_aload_n hx hb dcX11_conway_0 rfl (lv_at hl 0 rfl) ?_
  refine lv_iload_n hx hb dcX11_conway_1 rfl (lv_at hl 1 rfl) ?_
  obtain ⟨k2, z1, hcq, hq⟩ := ct_tc0 hq
  refine ct_calv hU hM (vx_runV (As := [.int x1]) (rest := []) ⟨hx, hb, hml, hown, hts⟩ (kc_X11_needDiagram l D q vl u hU.1 hlt sa K r0 x1 hr0 z z1 k2 hcq) (cwV 1 hts (tw_gV2 wT_good (fun _ h => h) (wT_C _ xq_818) (wT_C _ xq_819) (wT_C _ xq_820) (wT_C _ xq_773) (wT_C _ xq_807)) rfl rfl rfl cdd_X11_needDiagram ⟨(Nat.le_of_ble_eq_true rfl), (Nat.le_of_ble_eq_true rfl)⟩) (ct_preV hK hTh hM (co_X11 hr0) rfl) rfl rfl hl.1 rfl (lv_room (Nat.le_of_ble_eq_true rfl)) dcX11_conway_2 ⟨(Nat.le_of_ble_eq_true rfl), (Nat.le_of_ble_eq_true rfl)⟩) (fun E ce q9 H locs hk hE hM hce hcv hcl => ?_) (fun H locs hk hM => ?_)
  · have hq := tw_if hq hk
    obtain ⟨rfl, h9⟩ := Prod.mk.inj (Option.some.inj hq)
    obtain ⟨rfl, rfl⟩ := Prod.mk.inj h9
    exact ct_out hex hlocks hk hE hM hce hcv hcl hQQ (Nat.le_of_ble_eq_true rfl) (Nat.le_of_ble_eq_true rfl)
  have hq := tw_it hq hk
  refine lv_aload_n hx hb dcX11_conway_5 rfl (lv_at hl 0 rfl) ?_
  refine vgX11_65 hx hb hT hown hK hM hr0 dcX11_conway_6 ?_
  refine lv_aload_n hx hb dcX11_conway_9 rfl (lv_at hl 0 rfl) ?_
  refine vgX11_14 hx hb hT hown hK hM hr0 dcX11_conway_10 ?_
  refine lv_iload_n hx hb dcX11_conway_13 rfl (lv_at hl 1 rfl) ?_
  obtain ⟨z3, hcq, hq⟩ := tw_cl0 hq
  refine uw_calv hU hM (va_runV (As := [.ref (u (r0 + 1000)), .int x1]) (rest := []) ⟨hx, hb, hml, hown, hts⟩ (kc_X8_unfoldCode l D q vl u hU.1 K (r0 + 24000) (r0 + 1000) x1 (cs_X11_9 hr0) (cs_X11_0 hr0) z1 z3 hcq) (cwV 2 hts (tw_gV2 wT_good wT_C (wT_C _ xq_900) (wT_C _ xq_901) (wT_C _ xq_902) (wT_C _ xq_609) (wT_C _ xq_639)) rfl rfl rfl cdd_X8_unfoldCode ⟨(Nat.le_of_ble_eq_true rfl), (Nat.le_of_ble_eq_true rfl)⟩) (cw_preV hK hM (co_X8 (cs_X11_9 hr0)) rfl) rfl rfl hl.1 rfl (lv_room (Nat.le_of_ble_eq_true rfl)) dcX11_conway_14 ⟨(Nat.le_of_ble_eq_true rfl), (Nat.le_of_ble_eq_true rfl)⟩) (fun H locs hM => ?_)
  refine lv_aload_n hx hb dcX11_conway_17 rfl (lv_at hl 0 rfl) ?_
  refine vgX11_65 hx hb hT hown hK hM hr0 dcX11_conway_18 ?_
  refine lv_iload_n hx hb dcX11_conway_21 rfl (lv_at hl 2 rfl) ?_
  obtain ⟨v5, z4, hcq, hq⟩ := tw_cl1 hq
  refine uw_cali hU hM (va_runV (As := [.int x2]) (rest := []) ⟨hx, hb, hml, hown, hts⟩ (kc_X8_conwayAt l D q vl u hU.1 K (r0 + 24000) x2 (cs_X11_9 hr0) z3 z4 v5 hcq) (cwV 1 hts (tw_gV2 wT_good wT_C (wT_C _ xq_903) (wT_C _ xq_904) (wT_C _ xq_905) (wT_C _ xq_609) (wT_C _ xq_640)) rfl rfl rfl cdd_X8_conwayAt ⟨(Nat.le_of_ble_eq_true rfl), (Nat.le_of_ble_eq_true rfl)⟩) (cw_preV hK hM (co_X8 (cs_X11_9 hr0)) rfl) rfl rfl hl.1 rfl (lv_room (Nat.le_of_ble_eq_true rfl)) dcX11_conway_22 ⟨(Nat.le_of_ble_eq_true rfl), (Nat.le_of_ble_eq_true rfl)⟩) (fun H locs hM => ?_)
  exact ct_iret hx hb hr hlocks hM hq hQQ (Nat.le_of_ble_eq_true rfl) (Nat.le_of_ble_eq_true rfl) dcX11_conway_25
theorem dcX11_jones_0 : decode cX11_jones 0 = .ok (.aload_n 0, 1) := by decide +kernel
theorem dcX11_jones_1 : decode cX11_jones 1 = .ok (.iload_n 1, 1) := by decide +kernel
theorem dcX11_jones_2 : decode cX11_jones 2 = .ok (.invokevirtual 189, 3) := by decide +kernel
theorem dcX11_jones_5 : decode cX11_jones 5 = .ok (.aload_n 0, 1) := by decide +kernel
theorem dcX11_jones_6 : decode cX11_jones 6 = .ok (.getfield 65, 3) := by decide +kernel
theorem dcX11_jones_9 : decode cX11_jones 9 = .ok (.aload_n 0, 1) := by decide +kernel
theorem dcX11_jones_10 : decode cX11_jones 10 = .ok (.getfield 14, 3) := by decide +kernel
theorem dcX11_jones_13 : decode cX11_jones 13 = .ok (.iload_n 1, 1) := by decide +kernel
theorem dcX11_jones_14 : decode cX11_jones 14 = .ok (.invokevirtual 335, 3) := by decide +kernel
theorem dcX11_jones_17 : decode cX11_jones 17 = .ok (.aload_n 0, 1) := by decide +kernel
theorem dcX11_jones_18 : decode cX11_jones 18 = .ok (.getfield 65, 3) := by decide +kernel
theorem dcX11_jones_21 : decode cX11_jones 21 = .ok (.iload_n 2, 1) := by decide +kernel
theorem dcX11_jones_22 : decode cX11_jones 22 = .ok (.invokevirtual 338, 3) := by decide +kernel
theorem dcX11_jones_25 : decode cX11_jones 25 = .ok (.ireturn, 1) := by decide +kernel
def cm_X11_jones_0 (vl : Nat → Nat) (K : Nat) (x1 : Int32) (x2 : Int32) (r0 : Nat) (z : ow_MS) : Option (Nat × Int32 × ow_MS) :=
 tc0 (ce_X11_needDiagram vl K r0 x1 z) (fun k z => some (k, 0, z)) fun z1 => cs0 (ce_X8_countStates vl K (r0 + 24000) (r0 + 1000) x1 z1) fun z3 => cs1 (ce_X8_jonesAt vl K (r0 + 24000) x2 z3) fun v5 z4 => some (0, v5, z4)
def ce_X11_jones (vl : Nat → Nat) (K : Nat) (r0 : Nat) (x1 : Int32) (x2 : Int32) (z : ow_MS) : Option (Nat × Int32 × ow_MS) := cm_X11_jones_0 vl K x1 x2 r0 z
abbrev wc_X11_jones : List Cond := .code yX11_jones cX11_jones 3 (some .int) :: wT
theorem cdd_X11_jones : yX11_jones.cls = RX11 ∧ yX11_jones.cls ≠ "java/lang/invoke/MethodHandle" ∧ yX11_jones.cls ≠ "java/lang/invoke/VarHandle" ∧ (parseMethodDescriptor yX11_jones.desc).map (fun d => d.parameters.length) = some 2 := by decide +kernel
set_option maxHeartbeats 4000000 in
set_option maxRecDepth 100000 in
theorem kc_X11_jones (l : Launch) (D : va_G) (q : Nat → ClassId) (vl u : Nat → Nat) (hU0 : tw_inj (cX vl) u) (hlt : l.stackTraces = false) (sa : Nat → Nat) (K : Nat) (r0 : Nat) (x1 : Int32) (x2 : Int32) (hr0 : cw_X11 r0) (z z1 : ow_MS) (k9 : Nat) (r : Int32) (hq : ce_X11_jones vl K r0 x1 x2 z = some (k9, r, z1)) : vx_Met l yX11_jones wc_X11_jones ({ frames := 17, cells := 1, slots := 6, locals := 525 } : Room) (va_Pc [.ref (u r0), .int x1, .int x2] (cw_preT D q vl u sa z)) (va_Qi (fun x (_ : Unit) => k9 = 0 ∧ x = r) (fun _ t => va_P D vwCl (uw (cX vl) q u z1) t.heap) (tw_A (cX vl) u)) (ct_X D q vl u k9 z1) 1 6 (tw_A (cX vl) u) := by
  refine vx_ofW (cc := cX11_jones) (maxL := 3) (ret := (some .int)) (by decide) rfl ?_
  intro p e s m args below meth c s₁ B hml hex hv
  obtain ⟨rfl, hP, hK, hTh⟩ := hv
  have hx := B.exec
  have hb := B.bytes
  have hr := B.returns
  have hts := atoms_spec (ws := wc_X11_jones) B.pre
  have hT : ∀ w ∈ wC, w.before ([.ref (u r0), .int x1, .int x2] : List Value).toArray s = true := fun w h => hts w (List.mem_cons_of_mem _ (wT_C w h))
  have hown : s.vm.findClass RX11 = some m.cls := findClass_of_methodNamed B.named
  have hlocks := B.notSynchronized
  have hU : uw_inj (cX vl) u (tw_A (cX vl) u) := ⟨hU0, fun h hh => ⟨h, hh, rfl⟩⟩
  have hM : uw_M D vwCl (cX vl) q (tw_A (cX vl) u) s.heap u z s.heap [] := ⟨hP, va_S.rf⟩
  have hl := lv_entry ([.ref (u r0), .int x1, .int x2]) (n := 3) (Nat.le_of_ble_eq_true rfl)
  rw [lg_entry_eq]
  generalize (lg_sl ([.ref (u r0), .int x1, .int x2]) ++ List.replicate (3 - (lg_sl ([.ref (u r0), .int x1, .int x2])).length) Slot.unset).toArray = ls at hl ⊢
  have hl : lv_has ls 3 [(0, .ref (u r0)), (1, .int x1), (2, .int x2)] := hl
  refine ow_named (fun QQ hQQ => ?_)
  generalize ([.ref (u r0), .int x1, .int x2] : List Value).toArray = args at hts hT hQQ ⊢
  have hq : cm_X11_jones_0 vl K x1 x2 r0 z = some (k9, r, z1) := hq
  unfold cm_X11_jones_0 at hq
  suffices key : ∀ (H : Heap) (locs : List Loc), uw_M D vwCl (cX vl) q (tw_A (cX vl) u) s.heap u z H locs → W p l e ({ frames := 17, cells := 1, slots := 6, locals := 525 } : Room) s m args below meth c H locs 0 0 QQ (F0 m 0 ls []) from key s.heap [] hM
  intro H locs hM
  refine lv_aload_n hx hb dcX11_jones_0 rfl (lv_at hl 0 rfl) ?_
  refine lv_iload_n hx hb dcX11_jones_1 rfl (lv_at hl 1 rfl) ?_
  obtain ⟨k2, z1, hcq, hq⟩ := ct_tc0 hq
  refine ct_calv hU hM (vx_runV (As := [.int x1]) (rest := []) ⟨hx, hb, hml, hown, hts⟩ (kc_X11_needDiagram l D q vl u hU.1 hlt sa K r0 x1 hr0 z z1 k2 hcq) (cwV 1 hts (tw_gV2 wT_good (fun _ h => h) (wT_C _ xq_818) (wT_C _ xq_819) (wT_C _ xq_820) (wT_C _ xq_773) (wT_C _ xq_807)) rfl rfl rfl cdd_X11_needDiagram ⟨(Nat.le_of_ble_eq_true rfl), (Nat.le_of_ble_eq_true rfl)⟩) (ct_preV hK hTh hM (co_X11 hr0) rfl) rfl rfl hl.1 rfl (lv_room (Nat.le_of_ble_eq_true rfl)) dcX11_jones_2 ⟨(Nat.le_of_ble_eq_true rfl), (Nat.le_of_ble_eq_true rfl)⟩) (fun E ce q9 H locs hk hE hM hce hcv hcl => ?_) (fun H locs hk hM => ?_)
  · have hq := tw_if hq hk
    obtain ⟨rfl, h9⟩ := Prod.mk.inj (Option.some.inj hq)
    obtain ⟨rfl, rfl⟩ := Prod.mk.inj h9
    exact ct_out hex hlocks hk hE hM hce hcv hcl hQQ (Nat.le_of_ble_eq_true rfl) (Nat.le_of_ble_eq_true rfl)
  have hq := tw_it hq hk
  refine lv_aload_n hx hb dcX11_jones_5 rfl (lv_at hl 0 rfl) ?_
  refine vgX11_65 hx hb hT hown hK hM hr0 dcX11_jones_6 ?_
  refine lv_aload_n hx hb dcX11_jones_9 rfl (lv_at hl 0 rfl) ?_
  refine vgX11_14 hx hb hT hown hK hM hr0 dcX11_jones_10 ?_
  refine lv_iload_n hx hb dcX11_jones_13 rfl (lv_at hl 1 rfl) ?_
  obtain ⟨z3, hcq, hq⟩ := tw_cl0 hq
  refine uw_calv hU hM (va_runV (As := [.ref (u (r0 + 1000)), .int x1]) (rest := []) ⟨hx, hb, hml, hown, hts⟩ (kc_X8_countStates l D q vl u hU.1 K (r0 + 24000) (r0 + 1000) x1 (cs_X11_9 hr0) (cs_X11_0 hr0) z1 z3 hcq) (cwV 2 hts (tw_gV2 wT_good wT_C (wT_C _ xq_907) (wT_C _ xq_908) (wT_C _ xq_909) (wT_C _ xq_609) (wT_C _ xq_660)) rfl rfl rfl cdd_X8_countStates ⟨(Nat.le_of_ble_eq_true rfl), (Nat.le_of_ble_eq_true rfl)⟩) (cw_preV hK hM (co_X8 (cs_X11_9 hr0)) rfl) rfl rfl hl.1 rfl (lv_room (Nat.le_of_ble_eq_true rfl)) dcX11_jones_14 ⟨(Nat.le_of_ble_eq_true rfl), (Nat.le_of_ble_eq_true rfl)⟩) (fun H locs hM => ?_)
  refine lv_aload_n hx hb dcX11_jones_17 rfl (lv_at hl 0 rfl) ?_
  refine vgX11_65 hx hb hT hown hK hM hr0 dcX11_jones_18 ?_
  refine lv_iload_n hx hb dcX11_jones_21 rfl (lv_at hl 2 rfl) ?_
  obtain ⟨v5, z4, hcq, hq⟩ := tw_cl1 hq
  refine uw_cali hU hM (va_runV (As := [.int x2]) (rest := []) ⟨hx, hb, hml, hown, hts⟩ (kc_X8_jonesAt l D q vl u hU.1 K (r0 + 24000) x2 (cs_X11_9 hr0) z3 z4 v5 hcq) (cwV 1 hts (tw_gV2 wT_good wT_C (wT_C _ xq_910) (wT_C _ xq_911) (wT_C _ xq_912) (wT_C _ xq_609) (wT_C _ xq_662)) rfl rfl rfl cdd_X8_jonesAt ⟨(Nat.le_of_ble_eq_true rfl), (Nat.le_of_ble_eq_true rfl)⟩) (cw_preV hK hM (co_X8 (cs_X11_9 hr0)) rfl) rfl rfl hl.1 rfl (lv_room (Nat.le_of_ble_eq_true rfl)) dcX11_jones_22 ⟨(Nat.le_of_ble_eq_true rfl), (Nat.le_of_ble_eq_true rfl)⟩) (fun H locs hM => ?_)
  exact ct_iret hx hb hr hlocks hM hq hQQ (Nat.le_of_ble_eq_true rfl) (Nat.le_of_ble_eq_true rfl) dcX11_jones_25
theorem dcX11_signature_0 : decode cX11_signature 0 = .ok (.aload_n 0, 1) := by decide +kernel
theorem dcX11_signature_1 : decode cX11_signature 1 = .ok (.iload_n 1, 1) := by decide +kernel
theorem dcX11_signature_2 : decode cX11_signature 2 = .ok (.invokevirtual 189, 3) := by decide +kernel
theorem dcX11_signature_5 : decode cX11_signature 5 = .ok (.aload_n 0, 1) := by decide +kernel
theorem dcX11_signature_6 : decode cX11_signature 6 = .ok (.getfield 27, 3) := by decide +kernel
theorem dcX11_signature_9 : decode cX11_signature 9 = .ok (.aload_n 0, 1) := by decide +kernel
theorem dcX11_signature_10 : decode cX11_signature 10 = .ok (.getfield 14, 3) := by decide +kernel
theorem dcX11_signature_13 : decode cX11_signature 13 = .ok (.iload_n 1, 1) := by decide +kernel
theorem dcX11_signature_14 : decode cX11_signature 14 = .ok (.invokevirtual 194, 3) := by decide +kernel
theorem dcX11_signature_17 : decode cX11_signature 17 = .ok (.aload_n 0, 1) := by decide +kernel
theorem dcX11_signature_18 : decode cX11_signature 18 = .ok (.getfield 37, 3) := by decide +kernel
theorem dcX11_signature_21 : decode cX11_signature 21 = .ok (.aload_n 0, 1) := by decide +kernel
theorem dcX11_signature_22 : decode cX11_signature 22 = .ok (.getfield 27, 3) := by decide +kernel
theorem dcX11_signature_25 : decode cX11_signature 25 = .ok (.invokevirtual 341, 3) := by decide +kernel
theorem dcX11_signature_28 : decode cX11_signature 28 = .ok (.ireturn, 1) := by decide +kernel
def cm_X11_signature_0 (vl : Nat → Nat) (K : Nat) (x1 : Int32) (r0 : Nat) (z : ow_MS) : Option (Nat × Int32 × ow_MS) :=
 tc0 (ce_X11_needDiagram vl K r0 x1 z) (fun k z => some (k, 0, z)) fun z1 => cs0 (ce_X7_load vl K (r0 + 4000) (r0 + 1000) x1 z1) fun z3 => cs1 (ce_X4_signatureOf vl K (r0 + 6000) (r0 + 4000) z3) fun v5 z4 => some (0, v5, z4)
def ce_X11_signature (vl : Nat → Nat) (K : Nat) (r0 : Nat) (x1 : Int32) (z : ow_MS) : Option (Nat × Int32 × ow_MS) := cm_X11_signature_0 vl K x1 r0 z
abbrev wc_X11_signature : List Cond := .code yX11_signature cX11_signature 2 (some .int) :: wT
theorem cdd_X11_signature : yX11_signature.cls = RX11 ∧ yX11_signature.cls ≠ "java/lang/invoke/MethodHandle" ∧ yX11_signature.cls ≠ "java/lang/invoke/VarHandle" ∧ (parseMethodDescriptor yX11_signature.desc).map (fun d => d.parameters.length) = some 1 := by decide +kernel
set_option maxHeartbeats 4000000 in
set_option maxRecDepth 100000 in
theorem kc_X11_signature (l : Launch) (D : va_G) (q : Nat → ClassId) (vl u : Nat → Nat) (hU0 : tw_inj (cX vl) u) (hlt : l.stackTraces = false) (sa : Nat → Nat) (K : Nat) (r0 : Nat) (x1 : Int32) (hr0 : cw_X11 r0) (z z1 : ow_MS) (k9 : Nat) (r : Int32) (hq : ce_X11_signature vl K r0 x1 z = some (k9, r, z1)) : vx_Met l yX11_signature wc_X11_signature ({ frames := 7, cells := 1, slots := 6, locals := 163 } : Room) (va_Pc [.ref (u r0), .int x1] (cw_preT D q vl u sa z)) (va_Qi (fun x (_ : Unit) => k9 = 0 ∧ x = r) (fun _ t => va_P D vwCl (uw (cX vl) q u z1) t.heap) (tw_A (cX vl) u)) (ct_X D q vl u k9 z1) 1 6 (tw_A (cX vl) u) := by
  refine vx_ofW (cc := cX11_signature) (maxL := 2) (ret := (some .int)) (by decide) rfl ?_
  intro p e s m args below meth c s₁ B hml hex hv
  obtain ⟨rfl, hP, hK, hTh⟩ := hv
  have hx := B.exec
  have hb := B.bytes
  have hr := B.returns
  have hts := atoms_spec (ws := wc_X11_signature) B.pre
  have hT : ∀ w ∈ wC, w.before ([.ref (u r0), .int x1] : List Value).toArray s = true := fun w h => hts w (List.mem_cons_of_mem _ (wT_C w h))
  have hown : s.vm.findClass RX11 = some m.cls := findClass_of_methodNamed B.named
  have hlocks := B.notSynchronized
  have hU : uw_inj (cX vl) u (tw_A (cX vl) u) := ⟨hU0, fun h hh => ⟨h, hh, rfl⟩⟩
  have hM : uw_M D vwCl (cX vl) q (tw_A (cX vl) u) s.heap u z s.heap [] := ⟨hP, va_S.rf⟩
  have hl := lv_entry ([.ref (u r0), .int x1]) (n := 2) (Nat.le_of_ble_eq_true rfl)
  rw [lg_entry_eq]
  generalize (lg_sl ([.ref (u r0), .int x1]) ++ List.replicate (2 - (lg_sl ([.ref (u r0), .int x1])).length) Slot.unset).toArray = ls at hl ⊢
  have hl : lv_has ls 2 [(0, .ref (u r0)), (1, .int x1)] := hl
  refine ow_named (fun QQ hQQ => ?_)
  generalize ([.ref (u r0), .int x1] : List Value).toArray = args at hts hT hQQ ⊢
  have hq : cm_X11_signature_0 vl K x1 r0 z = some (k9, r, z1) := hq
  unfold cm_X11_signature_0 at hq
  suffices key : ∀ (H : Heap) (locs : List Loc), uw_M D vwCl (cX vl) q (tw_A (cX vl) u) s.heap u z H locs → W p l e ({ frames := 7, cells := 1, slots := 6, locals := 163 } : Room) s m args below meth c H locs 0 0 QQ (F0 m 0 ls []) from key s.heap [] hM
  intro H locs hM
  refine lv_aload_n hx hb dcX11_signature_0 rfl (lv_at hl 0 rfl) ?_
  refine lv_iload_n hx hb dcX11_signature_1 rfl (lv_at hl 1 rfl) ?_
  obtain ⟨k2, z1, hcq, hq⟩ := ct_tc0 hq
  refine ct_calv hU hM (vx_runV (As := [.int x1]) (rest := []) ⟨hx, hb, hml, hown, hts⟩ (kc_X11_needDiagram l D q vl u hU.1 hlt sa K r0 x1 hr0 z z1 k2 hcq) (cwV 1 hts (tw_gV2 wT_good (fun _ h => h) (wT_C _ xq_818) (wT_C _ xq_819) (wT_C _ xq_820) (wT_C _ xq_773) (wT_C _ xq_807)) rfl rfl rfl cdd_X11_needDiagram ⟨(Nat.le_of_ble_eq_true rfl), (Nat.le_of_ble_eq_true rfl)⟩) (ct_preV hK hTh hM (co_X11 hr0) rfl) rfl rfl hl.1 rfl (lv_room (Nat.le_of_ble_eq_true rfl)) dcX11_signature_2 ⟨(Nat.le_of_ble_eq_true rfl), (Nat.le_of_ble_eq_true rfl)⟩) (fun E ce q9 H locs hk hE hM hce hcv hcl => ?_) (fun H locs hk hM => ?_)
  · have hq := tw_if hq hk
    obtain ⟨rfl, h9⟩ := Prod.mk.inj (Option.some.inj hq)
    obtain ⟨rfl, rfl⟩ := Prod.mk.inj h9
    exact ct_out hex hlocks hk hE hM hce hcv hcl hQQ (Nat.le_of_ble_eq_true rfl) (Nat.le_of_ble_eq_true rfl)
  have hq := tw_it hq hk
  refine lv_aload_n hx hb dcX11_signature_5 rfl (lv_at hl 0 rfl) ?_
  refine vgX11_27 hx hb hT hown hK hM hr0 dcX11_signature_6 ?_
  refine lv_aload_n hx hb dcX11_signature_9 rfl (lv_at hl 0 rfl) ?_
  refine vgX11_14 hx hb hT hown hK hM hr0 dcX11_signature_10 ?_
  refine lv_iload_n hx hb dcX11_signature_13 rfl (lv_at hl 1 rfl) ?_
  obtain ⟨z3, hcq, hq⟩ := tw_cl0 hq
  refine uw_calv hU hM (va_runV (As := [.ref (u (r0 + 1000)), .int x1]) (rest := []) ⟨hx, hb, hml, hown, hts⟩ (kc_X7_load l D q vl u hU.1 K (r0 + 4000) (r0 + 1000) x1 (cs_X11_3 hr0) (cs_X11_0 hr0) z1 z3 hcq) (cwV 2 hts (tw_gV2 wT_good wT_C (wT_C _ xq_821) (wT_C _ xq_468) (wT_C _ xq_469) (wT_C _ xq_54) (wT_C _ xq_470)) rfl rfl rfl cdd_X7_load ⟨(Nat.le_of_ble_eq_true rfl), (Nat.le_of_ble_eq_true rfl)⟩) (cw_preV hK hM (co_X7 (cs_X11_3 hr0)) rfl) rfl rfl hl.1 rfl (lv_room (Nat.le_of_ble_eq_true rfl)) dcX11_signature_14 ⟨(Nat.le_of_ble_eq_true rfl), (Nat.le_of_ble_eq_true rfl)⟩) (fun H locs hM => ?_)
  refine lv_aload_n hx hb dcX11_signature_17 rfl (lv_at hl 0 rfl) ?_
  refine vgX11_37 hx hb hT hown hK hM hr0 dcX11_signature_18 ?_
  refine lv_aload_n hx hb dcX11_signature_21 rfl (lv_at hl 0 rfl) ?_
  refine vgX11_27 hx hb hT hown hK hM hr0 dcX11_signature_22 ?_
  obtain ⟨v5, z4, hcq, hq⟩ := tw_cl1 hq
  refine uw_cali hU hM (va_runV (As := [.ref (u (r0 + 4000))]) (rest := []) ⟨hx, hb, hml, hown, hts⟩ (kc_X4_signatureOf l D q vl u hU.1 K (r0 + 6000) (r0 + 4000) (cs_X11_5 hr0) (cs_X11_3 hr0) z3 z4 v5 hcq) (cwV 1 hts (tw_gV2 wT_good wT_C (wT_C _ xq_914) (wT_C _ xq_915) (wT_C _ xq_916) (wT_C _ xq_350) (wT_C _ xq_399)) rfl rfl rfl cdd_X4_signatureOf ⟨(Nat.le_of_ble_eq_true rfl), (Nat.le_of_ble_eq_true rfl)⟩) (cw_preV hK hM (co_X4 (cs_X11_5 hr0)) rfl) rfl rfl hl.1 rfl (lv_room (Nat.le_of_ble_eq_true rfl)) dcX11_signature_25 ⟨(Nat.le_of_ble_eq_true rfl), (Nat.le_of_ble_eq_true rfl)⟩) (fun H locs hM => ?_)
  exact ct_iret hx hb hr hlocks hM hq hQQ (Nat.le_of_ble_eq_true rfl) (Nat.le_of_ble_eq_true rfl) dcX11_signature_28
theorem dcX11_cover_0 : decode cX11_cover 0 = .ok (.aload_n 0, 1) := by decide +kernel
theorem dcX11_cover_1 : decode cX11_cover 1 = .ok (.iload_n 1, 1) := by decide +kernel
theorem dcX11_cover_2 : decode cX11_cover 2 = .ok (.invokevirtual 189, 3) := by decide +kernel
theorem dcX11_cover_5 : decode cX11_cover 5 = .ok (.aload_n 0, 1) := by decide +kernel
theorem dcX11_cover_6 : decode cX11_cover 6 = .ok (.getfield 27, 3) := by decide +kernel
theorem dcX11_cover_9 : decode cX11_cover 9 = .ok (.aload_n 0, 1) := by decide +kernel
theorem dcX11_cover_10 : decode cX11_cover 10 = .ok (.getfield 14, 3) := by decide +kernel
theorem dcX11_cover_13 : decode cX11_cover 13 = .ok (.iload_n 1, 1) := by decide +kernel
theorem dcX11_cover_14 : decode cX11_cover 14 = .ok (.invokevirtual 194, 3) := by decide +kernel
theorem dcX11_cover_17 : decode cX11_cover 17 = .ok (.aload_n 0, 1) := by decide +kernel
theorem dcX11_cover_18 : decode cX11_cover 18 = .ok (.getfield 72, 3) := by decide +kernel
theorem dcX11_cover_21 : decode cX11_cover 21 = .ok (.aload_n 0, 1) := by decide +kernel
theorem dcX11_cover_22 : decode cX11_cover 22 = .ok (.getfield 27, 3) := by decide +kernel
theorem dcX11_cover_25 : decode cX11_cover 25 = .ok (.invokevirtual 344, 3) := by decide +kernel
theorem dcX11_cover_28 : decode cX11_cover 28 = .ok (.aload_n 0, 1) := by decide +kernel
theorem dcX11_cover_29 : decode cX11_cover 29 = .ok (.getfield 72, 3) := by decide +kernel
theorem dcX11_cover_32 : decode cX11_cover 32 = .ok (.iload_n 2, 1) := by decide +kernel
theorem dcX11_cover_33 : decode cX11_cover 33 = .ok (.invokevirtual 347, 3) := by decide +kernel
theorem dcX11_cover_36 : decode cX11_cover 36 = .ok (.ireturn, 1) := by decide +kernel
def cm_X11_cover_0 (vl : Nat → Nat) (K : Nat) (x1 : Int32) (x2 : Int32) (r0 : Nat) (z : ow_MS) : Option (Nat × Int32 × ow_MS) :=
 tc0 (ce_X11_needDiagram vl K r0 x1 z) (fun k z => some (k, 0, z)) fun z1 => cs0 (ce_X7_load vl K (r0 + 4000) (r0 + 1000) x1 z1) fun z3 => cs0 (ce_X0_findCover vl K (r0 + 41000) (r0 + 4000) z3) fun z4 => cs1 (ce_X0_coverAt vl K (r0 + 41000) x2 z4) fun v6 z5 => some (0, v6, z5)
def ce_X11_cover (vl : Nat → Nat) (K : Nat) (r0 : Nat) (x1 : Int32) (x2 : Int32) (z : ow_MS) : Option (Nat × Int32 × ow_MS) := cm_X11_cover_0 vl K x1 x2 r0 z
abbrev wc_X11_cover : List Cond := .code yX11_cover cX11_cover 3 (some .int) :: wT
theorem cdd_X11_cover : yX11_cover.cls = RX11 ∧ yX11_cover.cls ≠ "java/lang/invoke/MethodHandle" ∧ yX11_cover.cls ≠ "java/lang/invoke/VarHandle" ∧ (parseMethodDescriptor yX11_cover.desc).map (fun d => d.parameters.length) = some 2 := by decide +kernel
set_option maxHeartbeats 4000000 in
set_option maxRecDepth 100000 in
theorem kc_X11_cover (l : Launch) (D : va_G) (q : Nat → ClassId) (vl u : Nat → Nat) (hU0 : tw_inj (cX vl) u) (hlt : l.stackTraces = false) (sa : Nat → Nat) (K : Nat) (r0 : Nat) (x1 : Int32) (x2 : Int32) (hr0 : cw_X11 r0) (z z1 : ow_MS) (k9 : Nat) (r : Int32) (hq : ce_X11_cover vl K r0 x1 x2 z = some (k9, r, z1)) : vx_Met l yX11_cover wc_X11_cover ({ frames := 7, cells := 1, slots := 6, locals := 111 } : Room) (va_Pc [.ref (u r0), .int x1, .int x2] (cw_preT D q vl u sa z)) (va_Qi (fun x (_ : Unit) => k9 = 0 ∧ x = r) (fun _ t => va_P D vwCl (uw (cX vl) q u z1) t.heap) (tw_A (cX vl) u)) (ct_X D q vl u k9 z1) 1 6 (tw_A (cX vl) u) := by
  refine vx_ofW (cc := cX11_cover) (maxL := 3) (ret := (some .int)) (by decide) rfl ?_
  intro p e s m args below meth c s₁ B hml hex hv
  obtain ⟨rfl, hP, hK, hTh⟩ := hv
  have hx := B.exec
  have hb := B.bytes
  have hr := B.returns
  have hts := atoms_spec (ws := wc_X11_cover) B.pre
  have hT : ∀ w ∈ wC, w.before ([.ref (u r0), .int x1, .int x2] : List Value).toArray s = true := fun w h => hts w (List.mem_cons_of_mem _ (wT_C w h))
  have hown : s.vm.findClass RX11 = some m.cls := findClass_of_methodNamed B.named
  have hlocks := B.notSynchronized
  have hU : uw_inj (cX vl) u (tw_A (cX vl) u) := ⟨hU0, fun h hh => ⟨h, hh, rfl⟩⟩
  have hM : uw_M D vwCl (cX vl) q (tw_A (cX vl) u) s.heap u z s.heap [] := ⟨hP, va_S.rf⟩
  have hl := lv_entry ([.ref (u r0), .int x1, .int x2]) (n := 3) (Nat.le_of_ble_eq_true rfl)
  rw [lg_entry_eq]
  generalize (lg_sl ([.ref (u r0), .int x1, .int x2]) ++ List.replicate (3 - (lg_sl ([.ref (u r0), .int x1, .int x2])).length) Slot.unset).toArray = ls at hl ⊢
  have hl : lv_has ls 3 [(0, .ref (u r0)), (1, .int x1), (2, .int x2)] := hl
  refine ow_named (fun QQ hQQ => ?_)
  generalize ([.ref (u r0), .int x1, .int x2] : List Value).toArray = args at hts hT hQQ ⊢
  have hq : cm_X11_cover_0 vl K x1 x2 r0 z = some (k9, r, z1) := hq
  unfold cm_X11_cover_0 at hq
  suffices key : ∀ (H : Heap) (locs : List Loc), uw_M D vwCl (cX vl) q (tw_A (cX vl) u) s.heap u z H locs → W p l e ({ frames := 7, cells := 1, slots := 6, locals := 111 } : Room) s m args below meth c H locs 0 0 QQ (F0 m 0 ls []) from key s.heap [] hM
  intro H locs hM
  refine lv_aload_n hx hb dcX11_cover_0 rfl (lv_at hl 0 rfl) ?_
  refine lv_iload_n hx hb dcX11_cover_1 rfl (lv_at hl 1 rfl) ?_
  obtain ⟨k2, z1, hcq, hq⟩ := ct_tc0 hq
  refine ct_calv hU hM (vx_runV (As := [.int x1]) (rest := []) ⟨hx, hb, hml, hown, hts⟩ (kc_X11_needDiagram l D q vl u hU.1 hlt sa K r0 x1 hr0 z z1 k2 hcq) (cwV 1 hts (tw_gV2 wT_good (fun _ h => h) (wT_C _ xq_818) (wT_C _ xq_819) (wT_C _ xq_820) (wT_C _ xq_773) (wT_C _ xq_807)) rfl rfl rfl cdd_X11_needDiagram ⟨(Nat.le_of_ble_eq_true rfl), (Nat.le_of_ble_eq_true rfl)⟩) (ct_preV hK hTh hM (co_X11 hr0) rfl) rfl rfl hl.1 rfl (lv_room (Nat.le_of_ble_eq_true rfl)) dcX11_cover_2 ⟨(Nat.le_of_ble_eq_true rfl), (Nat.le_of_ble_eq_true rfl)⟩) (fun E ce q9 H locs hk hE hM hce hcv hcl => ?_) (fun H locs hk hM => ?_)
  · have hq := tw_if hq hk
    obtain ⟨rfl, h9⟩ := Prod.mk.inj (Option.some.inj hq)
    obtain ⟨rfl, rfl⟩ := Prod.mk.inj h9
    exact ct_out hex hlocks hk hE hM hce hcv hcl hQQ (Nat.le_of_ble_eq_true rfl) (Nat.le_of_ble_eq_true rfl)
  have hq := tw_it hq hk
  refine lv_aload_n hx hb dcX11_cover_5 rfl (lv_at hl 0 rfl) ?_
  refine vgX11_27 hx hb hT hown hK hM hr0 dcX11_cover_6 ?_
  refine lv_aload_n hx hb dcX11_cover_9 rfl (lv_at hl 0 rfl) ?_
  refine vgX11_14 hx hb hT hown hK hM hr0 dcX11_cover_10 ?_
  refine lv_iload_n hx hb dcX11_cover_13 rfl (lv_at hl 1 rfl) ?_
  obtain ⟨z3, hcq, hq⟩ := tw_cl0 hq
  refine uw_calv hU hM (va_runV (As := [.ref (u (r0 + 1000)), .int x1]) (rest := []) ⟨hx, hb, hml, hown, hts⟩ (kc_X7_load l D q vl u hU.1 K (r0 + 4000) (r0 + 1000) x1 (cs_X11_3 hr0) (cs_X11_0 hr0) z1 z3 hcq) (cwV 2 hts (tw_gV2 wT_good wT_C (wT_C _ xq_821) (wT_C _ xq_468) (wT_C _ xq_469) (wT_C _ xq_54) (wT_C _ xq_470)) rfl rfl rfl cdd_X7_load ⟨(Nat.le_of_ble_eq_true rfl), (Nat.le_of_ble_eq_true rfl)⟩) (cw_preV hK hM (co_X7 (cs_X11_3 hr0)) rfl) rfl rfl hl.1 rfl (lv_room (Nat.le_of_ble_eq_true rfl)) dcX11_cover_14 ⟨(Nat.le_of_ble_eq_true rfl), (Nat.le_of_ble_eq_true rfl)⟩) (fun H locs hM => ?_)
  refine lv_aload_n hx hb dcX11_cover_17 rfl (lv_at hl 0 rfl) ?_
  refine vgX11_72 hx hb hT hown hK hM hr0 dcX11_cover_18 ?_
  refine lv_aload_n hx hb dcX11_cover_21 rfl (lv_at hl 0 rfl) ?_
  refine vgX11_27 hx hb hT hown hK hM hr0 dcX11_cover_22 ?_
  obtain ⟨z4, hcq, hq⟩ := tw_cl0 hq
  refine uw_calv hU hM (va_runV (As := [.ref (u (r0 + 4000))]) (rest := []) ⟨hx, hb, hml, hown, hts⟩ (kc_X0_findCover l D q vl u hU.1 K (r0 + 41000) (r0 + 4000) (cs_X11_10 hr0) (cs_X11_3 hr0) z3 z4 hcq) (cwV 1 hts (tw_gV2 wT_good wT_C (wT_C _ xq_919) (wT_C _ xq_920) (wT_C _ xq_921) (wT_C _ xq_24) (wT_C _ xq_44)) rfl rfl rfl cdd_X0_findCover ⟨(Nat.le_of_ble_eq_true rfl), (Nat.le_of_ble_eq_true rfl)⟩) (cw_preV hK hM (co_X0 (cs_X11_10 hr0)) rfl) rfl rfl hl.1 rfl (lv_room (Nat.le_of_ble_eq_true rfl)) dcX11_cover_25 ⟨(Nat.le_of_ble_eq_true rfl), (Nat.le_of_ble_eq_true rfl)⟩) (fun H locs hM => ?_)
  refine lv_aload_n hx hb dcX11_cover_28 rfl (lv_at hl 0 rfl) ?_
  refine vgX11_72 hx hb hT hown hK hM hr0 dcX11_cover_29 ?_
  refine lv_iload_n hx hb dcX11_cover_32 rfl (lv_at hl 2 rfl) ?_
  obtain ⟨v6, z5, hcq, hq⟩ := tw_cl1 hq
  refine uw_cali hU hM (va_runV (As := [.int x2]) (rest := []) ⟨hx, hb, hml, hown, hts⟩ (kc_X0_coverAt l D q vl u hU.1 K (r0 + 41000) x2 (cs_X11_10 hr0) z4 z5 v6 hcq) (cwV 1 hts (tw_gV2 wT_good wT_C (wT_C _ xq_922) (wT_C _ xq_923) (wT_C _ xq_924) (wT_C _ xq_24) (wT_C _ xq_45)) rfl rfl rfl cdd_X0_coverAt ⟨(Nat.le_of_ble_eq_true rfl), (Nat.le_of_ble_eq_true rfl)⟩) (cw_preV hK hM (co_X0 (cs_X11_10 hr0)) rfl) rfl rfl hl.1 rfl (lv_room (Nat.le_of_ble_eq_true rfl)) dcX11_cover_33 ⟨(Nat.le_of_ble_eq_true rfl), (Nat.le_of_ble_eq_true rfl)⟩) (fun H locs hM => ?_)
  exact ct_iret hx hb hr hlocks hM hq hQQ (Nat.le_of_ble_eq_true rfl) (Nat.le_of_ble_eq_true rfl) dcX11_cover_36
theorem dcX11_colours_0 : decode cX11_colours 0 = .ok (.aload_n 0, 1) := dw_at cX11_colours_k0 (p := 0) rfl (by decide +kernel)
theorem dcX11_colours_1 : decode cX11_colours 1 = .ok (.iload_n 1, 1) := dw_at cX11_colours_k0 (p := 1) rfl (by decide +kernel)
theorem dcX11_colours_2 : decode cX11_colours 2 = .ok (.invokevirtual 189, 3) := dw_at cX11_colours_k0 (p := 2) rfl (by decide +kernel)
theorem dcX11_colours_5 : decode cX11_colours 5 = .ok (.iload_n 2, 1) := dw_at cX11_colours_k0 (p := 5) rfl (by decide +kernel)
theorem dcX11_colours_6 : decode cX11_colours 6 = .ok (.iconst 1, 1) := dw_at cX11_colours_k0 (p := 6) rfl (by decide +kernel)
theorem dcX11_colours_7 : decode cX11_colours 7 = .ok (.if_icmp .lt 9, 3) := dw_at cX11_colours_k0 (p := 7) rfl (by decide +kernel)
theorem dcX11_colours_10 : decode cX11_colours 10 = .ok (.iload_n 2, 1) := dw_at cX11_colours_k0 (p := 10) rfl (by decide +kernel)
theorem dcX11_colours_11 : decode cX11_colours 11 = .ok (.bipush 100, 2) := dw_at cX11_colours_k0 (p := 11) rfl (by decide +kernel)
theorem dcX11_colours_13 : decode cX11_colours 13 = .ok (.if_icmp .le 14, 3) := dw_at cX11_colours_k0 (p := 13) rfl (by decide +kernel)
theorem dcX11_colours_16 : decode cX11_colours 16 = .ok (.new 128, 3) := dw_at cX11_colours_k0 (p := 16) rfl (by decide +kernel)
theorem dcX11_colours_19 : decode cX11_colours 19 = .ok (.dup, 1) := dw_at cX11_colours_k0 (p := 19) rfl (by decide +kernel)
theorem dcX11_colours_20 : decode cX11_colours 20 = .ok (.ldc_w 350, 3) := dw_at cX11_colours_k0 (p := 20) rfl (by decide +kernel)
theorem dcX11_colours_23 : decode cX11_colours 23 = .ok (.invokespecial 132, 3) := dw_at cX11_colours_k0 (p := 23) rfl (by decide +kernel)
theorem dcX11_colours_26 : decode cX11_colours 26 = .ok (.athrow, 1) := dw_at cX11_colours_k1 (p := 0) rfl (by decide +kernel)
theorem dcX11_colours_27 : decode cX11_colours 27 = .ok (.aload_n 0, 1) := dw_at cX11_colours_k1 (p := 1) rfl (by decide +kernel)
theorem dcX11_colours_28 : decode cX11_colours 28 = .ok (.getfield 27, 3) := dw_at cX11_colours_k1 (p := 2) rfl (by decide +kernel)
theorem dcX11_colours_31 : decode cX11_colours 31 = .ok (.aload_n 0, 1) := dw_at cX11_colours_k1 (p := 5) rfl (by decide +kernel)
theorem dcX11_colours_32 : decode cX11_colours 32 = .ok (.getfield 14, 3) := dw_at cX11_colours_k1 (p := 6) rfl (by decide +kernel)
theorem dcX11_colours_35 : decode cX11_colours 35 = .ok (.iload_n 1, 1) := dw_at cX11_colours_k1 (p := 9) rfl (by decide +kernel)
theorem dcX11_colours_36 : decode cX11_colours 36 = .ok (.invokevirtual 194, 3) := dw_at cX11_colours_k1 (p := 10) rfl (by decide +kernel)
theorem dcX11_colours_39 : decode cX11_colours 39 = .ok (.aload_n 0, 1) := dw_at cX11_colours_k1 (p := 13) rfl (by decide +kernel)
theorem dcX11_colours_40 : decode cX11_colours 40 = .ok (.getfield 72, 3) := dw_at cX11_colours_k1 (p := 14) rfl (by decide +kernel)
theorem dcX11_colours_43 : decode cX11_colours 43 = .ok (.aload_n 0, 1) := dw_at cX11_colours_k1 (p := 17) rfl (by decide +kernel)
theorem dcX11_colours_44 : decode cX11_colours 44 = .ok (.getfield 27, 3) := dw_at cX11_colours_k1 (p := 18) rfl (by decide +kernel)
theorem dcX11_colours_47 : decode cX11_colours 47 = .ok (.invokevirtual 344, 3) := dw_at cX11_colours_k1 (p := 21) rfl (by decide +kernel)
theorem dcX11_colours_50 : decode cX11_colours 50 = .ok (.aload_n 0, 1) := dw_at cX11_colours_k2 (p := 0) rfl (by decide +kernel)
theorem dcX11_colours_51 : decode cX11_colours 51 = .ok (.getfield 72, 3) := dw_at cX11_colours_k2 (p := 1) rfl (by decide +kernel)
theorem dcX11_colours_54 : decode cX11_colours 54 = .ok (.iload_n 2, 1) := dw_at cX11_colours_k2 (p := 4) rfl (by decide +kernel)
theorem dcX11_colours_55 : decode cX11_colours 55 = .ok (.invokevirtual 352, 3) := dw_at cX11_colours_k2 (p := 5) rfl (by decide +kernel)
theorem dcX11_colours_58 : decode cX11_colours 58 = .ok (.lreturn, 1) := dw_at cX11_colours_k2 (p := 8) rfl (by decide +kernel)
def cm_X11_colours_0 (vl : Nat → Nat) (K : Nat) (x1 : Int32) (x2 : Int32) (r0 : Nat) (z : ow_MS) : Option (Nat × Int64 × ow_MS) :=
 tc0 (ce_X11_needDiagram vl K r0 x1 z) (fun k z => some (k, 0, z)) fun z1 => (if x2 < 1 then some (2, 0, z1)
 else (if x2 ≤ 100 then cs0 (ce_X7_load vl K (r0 + 4000) (r0 + 1000) x1 z1) fun z3 => cs0 (ce_X0_findCover vl K (r0 + 41000) (r0 + 4000) z3) fun z4 => cs1 (ce_X0_countColours vl K (r0 + 41000) x2 z4) fun v6 z5 => some (0, v6, z5)
 else some (2, 0, z1)))
def ce_X11_colours (vl : Nat → Nat) (K : Nat) (r0 : Nat) (x1 : Int32) (x2 : Int32) (z : ow_MS) : Option (Nat × Int64 × ow_MS) := cm_X11_colours_0 vl K x1 x2 r0 z
abbrev wc_X11_colours : List Cond := .code yX11_colours cX11_colours 3 (some .long) :: wT
theorem cdd_X11_colours : yX11_colours.cls = RX11 ∧ yX11_colours.cls ≠ "java/lang/invoke/MethodHandle" ∧ yX11_colours.cls ≠ "java/lang/invoke/VarHandle" ∧ (parseMethodDescriptor yX11_colours.desc).map (fun d => d.parameters.length) = some 2 := by decide +kernel
set_option maxHeartbeats 4000000 in
set_option maxRecDepth 100000 in
theorem kc_X11_colours (l : Launch) (D : va_G) (q : Nat → ClassId) (vl u : Nat → Nat) (hU0 : tw_inj (cX vl) u) (hlt : l.stackTraces = false) (sa : Nat → Nat) (K : Nat) (r0 : Nat) (x1 : Int32) (x2 : Int32) (hr0 : cw_X11 r0) (z z1 : ow_MS) (k9 : Nat) (r : Int64) (hq : ce_X11_colours vl K r0 x1 x2 z = some (k9, r, z1)) : vx_Met l yX11_colours wc_X11_colours ({ frames := 7, cells := 2, slots := 12, locals := 111 } : Room) (va_Pc [.ref (u r0), .int x1, .int x2] (cw_preT D q vl u sa z)) (va_Ql (fun x (_ : Unit) => k9 = 0 ∧ x = r) (fun _ t => va_P D vwCl (uw (cX vl) q u z1) t.heap) (tw_A (cX vl) u)) (ct_X D q vl u k9 z1) 2 12 (tw_A (cX vl) u) := by
  refine vx_ofW (cc := cX11_colours) (maxL := 3) (ret := (some .long)) (by decide) rfl ?_
  intro p e s m args below meth c s₁ B hml hex hv
  obtain ⟨rfl, hP, hK, hTh⟩ := hv
  have hx := B.exec
  have hb := B.bytes
  have hr := B.returns
  have hts := atoms_spec (ws := wc_X11_colours) B.pre
  have hT : ∀ w ∈ wC, w.before ([.ref (u r0), .int x1, .int x2] : List Value).toArray s = true := fun w h => hts w (List.mem_cons_of_mem _ (wT_C w h))
  have hown : s.vm.findClass RX11 = some m.cls := findClass_of_methodNamed B.named
  have hlocks := B.notSynchronized
  have hU : uw_inj (cX vl) u (tw_A (cX vl) u) := ⟨hU0, fun h hh => ⟨h, hh, rfl⟩⟩
  have hM : uw_M D vwCl (cX vl) q (tw_A (cX vl) u) s.heap u z s.heap [] := ⟨hP, va_S.rf⟩
  have hl := lv_entry ([.ref (u r0), .int x1, .int x2]) (n := 3) (Nat.le_of_ble_eq_true rfl)
  rw [lg_entry_eq]
  generalize (lg_sl ([.ref (u r0), .int x1, .int x2]) ++ List.replicate (3 - (lg_sl ([.ref (u r0), .int x1, .int x2])).length) Slot.unset).toArray = ls at hl ⊢
  have hl : lv_has ls 3 [(0, .ref (u r0)), (1, .int x1), (2, .int x2)] := hl
  refine ow_named (fun QQ hQQ => ?_)
  generalize ([.ref (u r0), .int x1, .int x2] : List Value).toArray = args at hts hT hQQ ⊢
  have hq : cm_X11_colours_0 vl K x1 x2 r0 z = some (k9, r, z1) := hq
  unfold cm_X11_colours_0 at hq
  suffices key : ∀ (H : Heap) (locs : List Loc), uw_M D vwCl (cX vl) q (tw_A (cX vl) u) s.heap u z H locs → W p l e ({ frames := 7, cells := 2, slots := 12, locals := 111 } : Room) s m args below meth c H locs 0 0 QQ (F0 m 0 ls []) from key s.heap [] hM
  intro H locs hM
  refine lv_aload_n hx hb dcX11_colours_0 rfl (lv_at hl 0 rfl) ?_
  refine lv_iload_n hx hb dcX11_colours_1 rfl (lv_at hl 1 rfl) ?_
  obtain ⟨k2, z1, hcq, hq⟩ := ct_tc0 hq
  refine ct_calv hU hM (vx_runV (As := [.int x1]) (rest := []) ⟨hx, hb, hml, hown, hts⟩ (kc_X11_needDiagram l D q vl u hU.1 hlt sa K r0 x1 hr0 z z1 k2 hcq) (cwV 1 hts (tw_gV2 wT_good (fun _ h => h) (wT_C _ xq_818) (wT_C _ xq_819) (wT_C _ xq_820) (wT_C _ xq_773) (wT_C _ xq_807)) rfl rfl rfl cdd_X11_needDiagram ⟨(Nat.le_of_ble_eq_true rfl), (Nat.le_of_ble_eq_true rfl)⟩) (ct_preV hK hTh hM (co_X11 hr0) rfl) rfl rfl hl.1 rfl (lv_room (Nat.le_of_ble_eq_true rfl)) dcX11_colours_2 ⟨(Nat.le_of_ble_eq_true rfl), (Nat.le_of_ble_eq_true rfl)⟩) (fun E ce q9 H locs hk hE hM hce hcv hcl => ?_) (fun H locs hk hM => ?_)
  · have hq := tw_if hq hk
    obtain ⟨rfl, h9⟩ := Prod.mk.inj (Option.some.inj hq)
    obtain ⟨rfl, rfl⟩ := Prod.mk.inj h9
    exact ct_out hex hlocks hk hE hM hce hcv hcl hQQ (Nat.le_of_ble_eq_true rfl) (Nat.le_of_ble_eq_true rfl)
  have hq := tw_it hq hk
  refine lv_iload_n hx hb dcX11_colours_5 rfl (lv_at hl 2 rfl) ?_
  refine lv_iconst (v := 1) hx hb dcX11_colours_6 (by decide) ?_
  refine lv_icmp_lt (tgt := 16) hx hb dcX11_colours_7 (by decide) (fun hc => ?_) (fun hc => ?_)
  · have hq := tw_it hq hc
    obtain ⟨rfl, h9⟩ := Prod.mk.inj (Option.some.inj hq)
    obtain ⟨rfl, rfl⟩ := Prod.mk.inj h9
    exact ct_throwW (k := 2) (text := "colours are counted modulo 1 to 100") (cls := "java/lang/IllegalArgumentException") hx hb hlt hown hex hlocks (by rw [hml]; exact hl.1.symm) hTh (List.mem_of_getElem? (i := 18) rfl) rfl (by decide) (by decide +kernel) (hts _ (List.mem_cons_of_mem _ wT_k2)) (hts _ (List.mem_cons_of_mem _ wT_i2)) (fun w h => hts w (List.mem_cons_of_mem _ (wT_2 w h))) th9_2 tg9_2 hM dcX11_colours_16 dcX11_colours_19 dcX11_colours_20 dcX11_colours_23 dcX11_colours_26 hQQ (Nat.le_of_ble_eq_true rfl) (Nat.le_of_ble_eq_true rfl) (Nat.le_of_ble_eq_true rfl) (Nat.le_of_ble_eq_true rfl) (Nat.le_of_ble_eq_true rfl) (Nat.le_of_ble_eq_true rfl)
  · have hq := tw_if hq hc
    refine lv_iload_n hx hb dcX11_colours_10 rfl (lv_at hl 2 rfl) ?_
    refine lv_bipush (v := 100) hx hb dcX11_colours_11 (by decide) ?_
    refine lv_icmp_le (tgt := 27) hx hb dcX11_colours_13 (by decide) (fun hc => ?_) (fun hc => ?_)
    · have hq := tw_it hq hc
      refine lv_aload_n hx hb dcX11_colours_27 rfl (lv_at hl 0 rfl) ?_
      refine vgX11_27 hx hb hT hown hK hM hr0 dcX11_colours_28 ?_
      refine lv_aload_n hx hb dcX11_colours_31 rfl (lv_at hl 0 rfl) ?_
      refine vgX11_14 hx hb hT hown hK hM hr0 dcX11_colours_32 ?_
      refine lv_iload_n hx hb dcX11_colours_35 rfl (lv_at hl 1 rfl) ?_
      obtain ⟨z3, hcq, hq⟩ := tw_cl0 hq
      refine uw_calv hU hM (va_runV (As := [.ref (u (r0 + 1000)), .int x1]) (rest := []) ⟨hx, hb, hml, hown, hts⟩ (kc_X7_load l D q vl u hU.1 K (r0 + 4000) (r0 + 1000) x1 (cs_X11_3 hr0) (cs_X11_0 hr0) z1 z3 hcq) (cwV 2 hts (tw_gV2 wT_good wT_C (wT_C _ xq_821) (wT_C _ xq_468) (wT_C _ xq_469) (wT_C _ xq_54) (wT_C _ xq_470)) rfl rfl rfl cdd_X7_load ⟨(Nat.le_of_ble_eq_true rfl), (Nat.le_of_ble_eq_true rfl)⟩) (cw_preV hK hM (co_X7 (cs_X11_3 hr0)) rfl) rfl rfl hl.1 rfl (lv_room (Nat.le_of_ble_eq_true rfl)) dcX11_colours_36 ⟨(Nat.le_of_ble_eq_true rfl), (Nat.le_of_ble_eq_true rfl)⟩) (fun H locs hM => ?_)
      refine lv_aload_n hx hb dcX11_colours_39 rfl (lv_at hl 0 rfl) ?_
      refine vgX11_72 hx hb hT hown hK hM hr0 dcX11_colours_40 ?_
      refine lv_aload_n hx hb dcX11_colours_43 rfl (lv_at hl 0 rfl) ?_
      refine vgX11_27 hx hb hT hown hK hM hr0 dcX11_colours_44 ?_
      obtain ⟨z4, hcq, hq⟩ := tw_cl0 hq
      refine uw_calv hU hM (va_runV (As := [.ref (u (r0 + 4000))]) (rest := []) ⟨hx, hb, hml, hown, hts⟩ (kc_X0_findCover l D q vl u hU.1 K (r0 + 41000) (r0 + 4000) (cs_X11_10 hr0) (cs_X11_3 hr0) z3 z4 hcq) (cwV 1 hts (tw_gV2 wT_good wT_C (wT_C _ xq_919) (wT_C _ xq_920) (wT_C _ xq_921) (wT_C _ xq_24) (wT_C _ xq_44)) rfl rfl rfl cdd_X0_findCover ⟨(Nat.le_of_ble_eq_true rfl), (Nat.le_of_ble_eq_true rfl)⟩) (cw_preV hK hM (co_X0 (cs_X11_10 hr0)) rfl) rfl rfl hl.1 rfl (lv_room (Nat.le_of_ble_eq_true rfl)) dcX11_colours_47 ⟨(Nat.le_of_ble_eq_true rfl), (Nat.le_of_ble_eq_true rfl)⟩) (fun H locs hM => ?_)
      refine lv_aload_n hx hb dcX11_colours_50 rfl (lv_at hl 0 rfl) ?_
      refine vgX11_72 hx hb hT hown hK hM hr0 dcX11_colours_51 ?_
      refine lv_iload_n hx hb dcX11_colours_54 rfl (lv_at hl 2 rfl) ?_
      obtain ⟨v6, z5, hcq, hq⟩ := tw_cl1 hq
      refine uw_call hU hM (va_runV (As := [.int x2]) (rest := []) ⟨hx, hb, hml, hown, hts⟩ (kc_X0_countColours l D q vl u hU.1 K (r0 + 41000) x2 (cs_X11_10 hr0) z4 z5 v6 hcq) (cwV 1 hts (tw_gV2 wT_good wT_C (wT_C _ xq_926) (wT_C _ xq_927) (wT_C _ xq_928) (wT_C _ xq_24) (wT_C _ xq_49)) rfl rfl rfl cdd_X0_countColours ⟨(Nat.le_of_ble_eq_true rfl), (Nat.le_of_ble_eq_true rfl)⟩) (cw_preV hK hM (co_X0 (cs_X11_10 hr0)) rfl) rfl rfl hl.1 rfl (lv_room (Nat.le_of_ble_eq_true rfl)) dcX11_colours_55 ⟨(Nat.le_of_ble_eq_true rfl), (Nat.le_of_ble_eq_true rfl)⟩) (fun H locs hM => ?_)
      exact ct_lret hx hb hr hlocks hM hq hQQ (Nat.le_of_ble_eq_true rfl) (Nat.le_of_ble_eq_true rfl) dcX11_colours_58
    · have hq := tw_if hq hc
      obtain ⟨rfl, h9⟩ := Prod.mk.inj (Option.some.inj hq)
      obtain ⟨rfl, rfl⟩ := Prod.mk.inj h9
      exact ct_throwW (k := 2) (text := "colours are counted modulo 1 to 100") (cls := "java/lang/IllegalArgumentException") hx hb hlt hown hex hlocks (by rw [hml]; exact hl.1.symm) hTh (List.mem_of_getElem? (i := 18) rfl) rfl (by decide) (by decide +kernel) (hts _ (List.mem_cons_of_mem _ wT_k2)) (hts _ (List.mem_cons_of_mem _ wT_i2)) (fun w h => hts w (List.mem_cons_of_mem _ (wT_2 w h))) th9_2 tg9_2 hM dcX11_colours_16 dcX11_colours_19 dcX11_colours_20 dcX11_colours_23 dcX11_colours_26 hQQ (Nat.le_of_ble_eq_true rfl) (Nat.le_of_ble_eq_true rfl) (Nat.le_of_ble_eq_true rfl) (Nat.le_of_ble_eq_true rfl) (Nat.le_of_ble_eq_true rfl) (Nat.le_of_ble_eq_true rfl)
theorem dcX11_maps_0 : decode cX11_maps 0 = .ok (.aload_n 0, 1) := dw_at cX11_maps_k0 (p := 0) rfl (by decide +kernel)
theorem dcX11_maps_1 : decode cX11_maps 1 = .ok (.iload_n 1, 1) := dw_at cX11_maps_k0 (p := 1) rfl (by decide +kernel)
theorem dcX11_maps_2 : decode cX11_maps 2 = .ok (.invokevirtual 189, 3) := dw_at cX11_maps_k0 (p := 2) rfl (by decide +kernel)
theorem dcX11_maps_5 : decode cX11_maps 5 = .ok (.iload_n 2, 1) := dw_at cX11_maps_k0 (p := 5) rfl (by decide +kernel)
theorem dcX11_maps_6 : decode cX11_maps 6 = .ok (.iconst 1, 1) := dw_at cX11_maps_k0 (p := 6) rfl (by decide +kernel)
theorem dcX11_maps_7 : decode cX11_maps 7 = .ok (.if_icmp .lt 8, 3) := dw_at cX11_maps_k0 (p := 7) rfl (by decide +kernel)
theorem dcX11_maps_10 : decode cX11_maps 10 = .ok (.iload_n 2, 1) := dw_at cX11_maps_k0 (p := 10) rfl (by decide +kernel)
theorem dcX11_maps_11 : decode cX11_maps 11 = .ok (.iconst 4, 1) := dw_at cX11_maps_k0 (p := 11) rfl (by decide +kernel)
theorem dcX11_maps_12 : decode cX11_maps 12 = .ok (.if_icmp .le 14, 3) := dw_at cX11_maps_k0 (p := 12) rfl (by decide +kernel)
theorem dcX11_maps_15 : decode cX11_maps 15 = .ok (.new 128, 3) := dw_at cX11_maps_k0 (p := 15) rfl (by decide +kernel)
theorem dcX11_maps_18 : decode cX11_maps 18 = .ok (.dup, 1) := dw_at cX11_maps_k0 (p := 18) rfl (by decide +kernel)
theorem dcX11_maps_19 : decode cX11_maps 19 = .ok (.ldc_w 356, 3) := dw_at cX11_maps_k0 (p := 19) rfl (by decide +kernel)
theorem dcX11_maps_22 : decode cX11_maps 22 = .ok (.invokespecial 132, 3) := dw_at cX11_maps_k0 (p := 22) rfl (by decide +kernel)
theorem dcX11_maps_25 : decode cX11_maps 25 = .ok (.athrow, 1) := dw_at cX11_maps_k1 (p := 0) rfl (by decide +kernel)
theorem dcX11_maps_26 : decode cX11_maps 26 = .ok (.aload_n 0, 1) := dw_at cX11_maps_k1 (p := 1) rfl (by decide +kernel)
theorem dcX11_maps_27 : decode cX11_maps 27 = .ok (.getfield 27, 3) := dw_at cX11_maps_k1 (p := 2) rfl (by decide +kernel)
theorem dcX11_maps_30 : decode cX11_maps 30 = .ok (.aload_n 0, 1) := dw_at cX11_maps_k1 (p := 5) rfl (by decide +kernel)
theorem dcX11_maps_31 : decode cX11_maps 31 = .ok (.getfield 14, 3) := dw_at cX11_maps_k1 (p := 6) rfl (by decide +kernel)
theorem dcX11_maps_34 : decode cX11_maps 34 = .ok (.iload_n 1, 1) := dw_at cX11_maps_k1 (p := 9) rfl (by decide +kernel)
theorem dcX11_maps_35 : decode cX11_maps 35 = .ok (.invokevirtual 194, 3) := dw_at cX11_maps_k1 (p := 10) rfl (by decide +kernel)
theorem dcX11_maps_38 : decode cX11_maps 38 = .ok (.aload_n 0, 1) := dw_at cX11_maps_k1 (p := 13) rfl (by decide +kernel)
theorem dcX11_maps_39 : decode cX11_maps 39 = .ok (.getfield 27, 3) := dw_at cX11_maps_k1 (p := 14) rfl (by decide +kernel)
theorem dcX11_maps_42 : decode cX11_maps 42 = .ok (.getfield 198, 3) := dw_at cX11_maps_k1 (p := 17) rfl (by decide +kernel)
theorem dcX11_maps_45 : decode cX11_maps 45 = .ok (.bipush 7, 2) := dw_at cX11_maps_k1 (p := 20) rfl (by decide +kernel)
theorem dcX11_maps_47 : decode cX11_maps 47 = .ok (.if_icmp .gt 14, 3) := dw_at cX11_maps_k1 (p := 22) rfl (by decide +kernel)
theorem dcX11_maps_50 : decode cX11_maps 50 = .ok (.aload_n 0, 1) := dw_at cX11_maps_k2 (p := 0) rfl (by decide +kernel)
theorem dcX11_maps_51 : decode cX11_maps 51 = .ok (.getfield 27, 3) := dw_at cX11_maps_k2 (p := 1) rfl (by decide +kernel)
theorem dcX11_maps_54 : decode cX11_maps 54 = .ok (.getfield 201, 3) := dw_at cX11_maps_k2 (p := 4) rfl (by decide +kernel)
theorem dcX11_maps_57 : decode cX11_maps 57 = .ok (.iconst 4, 1) := dw_at cX11_maps_k2 (p := 7) rfl (by decide +kernel)
theorem dcX11_maps_58 : decode cX11_maps 58 = .ok (.if_icmp .le 14, 3) := dw_at cX11_maps_k2 (p := 8) rfl (by decide +kernel)
theorem dcX11_maps_61 : decode cX11_maps 61 = .ok (.new 263, 3) := dw_at cX11_maps_k2 (p := 11) rfl (by decide +kernel)
theorem dcX11_maps_64 : decode cX11_maps 64 = .ok (.dup, 1) := dw_at cX11_maps_k2 (p := 14) rfl (by decide +kernel)
theorem dcX11_maps_65 : decode cX11_maps 65 = .ok (.ldc_w 358, 3) := dw_at cX11_maps_k2 (p := 15) rfl (by decide +kernel)
theorem dcX11_maps_68 : decode cX11_maps 68 = .ok (.invokespecial 267, 3) := dw_at cX11_maps_k2 (p := 18) rfl (by decide +kernel)
theorem dcX11_maps_71 : decode cX11_maps 71 = .ok (.athrow, 1) := dw_at cX11_maps_k2 (p := 21) rfl (by decide +kernel)
theorem dcX11_maps_72 : decode cX11_maps 72 = .ok (.aload_n 0, 1) := dw_at cX11_maps_k2 (p := 22) rfl (by decide +kernel)
theorem dcX11_maps_73 : decode cX11_maps 73 = .ok (.getfield 72, 3) := dw_at cX11_maps_k2 (p := 23) rfl (by decide +kernel)
theorem dcX11_maps_76 : decode cX11_maps 76 = .ok (.aload_n 0, 1) := dw_at cX11_maps_k3 (p := 0) rfl (by decide +kernel)
theorem dcX11_maps_77 : decode cX11_maps 77 = .ok (.getfield 27, 3) := dw_at cX11_maps_k3 (p := 1) rfl (by decide +kernel)
theorem dcX11_maps_80 : decode cX11_maps 80 = .ok (.iload_n 2, 1) := dw_at cX11_maps_k3 (p := 4) rfl (by decide +kernel)
theorem dcX11_maps_81 : decode cX11_maps 81 = .ok (.invokevirtual 360, 3) := dw_at cX11_maps_k3 (p := 5) rfl (by decide +kernel)
theorem dcX11_maps_84 : decode cX11_maps 84 = .ok (.l2i, 1) := dw_at cX11_maps_k3 (p := 8) rfl (by decide +kernel)
theorem dcX11_maps_85 : decode cX11_maps 85 = .ok (.ireturn, 1) := dw_at cX11_maps_k3 (p := 9) rfl (by decide +kernel)
def cm_X11_maps_0 (vl : Nat → Nat) (K : Nat) (x1 : Int32) (x2 : Int32) (r0 : Nat) (z : ow_MS) : Option (Nat × Int32 × ow_MS) :=
 tc0 (ce_X11_needDiagram vl K r0 x1 z) (fun k z => some (k, 0, z)) fun z1 => (if x2 < 1 then some (2, 0, z1)
 else (if x2 ≤ 4 then cs0 (ce_X7_load vl K (r0 + 4000) (r0 + 1000) x1 z1) fun z3 => rdF z3 ((r0 + 4000) + 8) fun v4 => (if 7 < v4 then some (4, 0, z3)
 else rdF z3 ((r0 + 4000) + 10) fun v5 => (if v5 ≤ 4 then cs1 (ce_X0_countMaps vl K (r0 + 41000) (r0 + 4000) x2 z3) fun v7 z6 => some (0, v7.toInt32, z6)
 else some (4, 0, z3)))
 else some (2, 0, z1)))
def ce_X11_maps (vl : Nat → Nat) (K : Nat) (r0 : Nat) (x1 : Int32) (x2 : Int32) (z : ow_MS) : Option (Nat × Int32 × ow_MS) := cm_X11_maps_0 vl K x1 x2 r0 z
abbrev wc_X11_maps : List Cond := .code yX11_maps cX11_maps 3 (some .int) :: wT
theorem cdd_X11_maps : yX11_maps.cls = RX11 ∧ yX11_maps.cls ≠ "java/lang/invoke/MethodHandle" ∧ yX11_maps.cls ≠ "java/lang/invoke/VarHandle" ∧ (parseMethodDescriptor yX11_maps.desc).map (fun d => d.parameters.length) = some 2 := by decide +kernel
set_option maxHeartbeats 4000000 in
set_option maxRecDepth 100000 in
theorem kc_X11_maps (l : Launch) (D : va_G) (q : Nat → ClassId) (vl u : Nat → Nat) (hU0 : tw_inj (cX vl) u) (hlt : l.stackTraces = false) (sa : Nat → Nat) (K : Nat) (r0 : Nat) (x1 : Int32) (x2 : Int32) (hr0 : cw_X11 r0) (z z1 : ow_MS) (k9 : Nat) (r : Int32) (hq : ce_X11_maps vl K r0 x1 x2 z = some (k9, r, z1)) : vx_Met l yX11_maps wc_X11_maps ({ frames := 23, cells := 2, slots := 12, locals := 642 } : Room) (va_Pc [.ref (u r0), .int x1, .int x2] (cw_preT D q vl u sa z)) (va_Qi (fun x (_ : Unit) => k9 = 0 ∧ x = r) (fun _ t => va_P D vwCl (uw (cX vl) q u z1) t.heap) (tw_A (cX vl) u)) (ct_X D q vl u k9 z1) 2 12 (tw_A (cX vl) u) := by
  refine vx_ofW (cc := cX11_maps) (maxL := 3) (ret := (some .int)) (by decide) rfl ?_
  intro p e s m args below meth c s₁ B hml hex hv
  obtain ⟨rfl, hP, hK, hTh⟩ := hv
  have hx := B.exec
  have hb := B.bytes
  have hr := B.returns
  have hts := atoms_spec (ws := wc_X11_maps) B.pre
  have hT : ∀ w ∈ wC, w.before ([.ref (u r0), .int x1, .int x2] : List Value).toArray s = true := fun w h => hts w (List.mem_cons_of_mem _ (wT_C w h))
  have hown : s.vm.findClass RX11 = some m.cls := findClass_of_methodNamed B.named
  have hlocks := B.notSynchronized
  have hU : uw_inj (cX vl) u (tw_A (cX vl) u) := ⟨hU0, fun h hh => ⟨h, hh, rfl⟩⟩
  have hM : uw_M D vwCl (cX vl) q (tw_A (cX vl) u) s.heap u z s.heap [] := ⟨hP, va_S.rf⟩
  have hl := lv_entry ([.ref (u r0), .int x1, .int x2]) (n := 3) (Nat.le_of_ble_eq_true rfl)
  rw [lg_entry_eq]
  generalize (lg_sl ([.ref (u r0), .int x1, .int x2]) ++ List.replicate (3 - (lg_sl ([.ref (u r0), .int x1, .int x2])).length) Slot.unset).toArray = ls at hl ⊢
  have hl : lv_has ls 3 [(0, .ref (u r0)), (1, .int x1), (2, .int x2)] := hl
  refine ow_named (fun QQ hQQ => ?_)
  generalize ([.ref (u r0), .int x1, .int x2] : List Value).toArray = args at hts hT hQQ ⊢
  have hq : cm_X11_maps_0 vl K x1 x2 r0 z = some (k9, r, z1) := hq
  unfold cm_X11_maps_0 at hq
  suffices key : ∀ (H : Heap) (locs : List Loc), uw_M D vwCl (cX vl) q (tw_A (cX vl) u) s.heap u z H locs → W p l e ({ frames := 23, cells := 2, slots := 12, locals := 642 } : Room) s m args below meth c H locs 0 0 QQ (F0 m 0 ls []) from key s.heap [] hM
  intro H locs hM
  refine lv_aload_n hx hb dcX11_maps_0 rfl (lv_at hl 0 rfl) ?_
  refine lv_iload_n hx hb dcX11_maps_1 rfl (lv_at hl 1 rfl) ?_
  obtain ⟨k2, z1, hcq, hq⟩ := ct_tc0 hq
  refine ct_calv hU hM (vx_runV (As := [.int x1]) (rest := []) ⟨hx, hb, hml, hown, hts⟩ (kc_X11_needDiagram l D q vl u hU.1 hlt sa K r0 x1 hr0 z z1 k2 hcq) (cwV 1 hts (tw_gV2 wT_good (fun _ h => h) (wT_C _ xq_818) (wT_C _ xq_819) (wT_C _ xq_820) (wT_C _ xq_773) (wT_C _ xq_807)) rfl rfl rfl cdd_X11_needDiagram ⟨(Nat.le_of_ble_eq_true rfl), (Nat.le_of_ble_eq_true rfl)⟩) (ct_preV hK hTh hM (co_X11 hr0) rfl) rfl rfl hl.1 rfl (lv_room (Nat.le_of_ble_eq_true rfl)) dcX11_maps_2 ⟨(Nat.le_of_ble_eq_true rfl), (Nat.le_of_ble_eq_true rfl)⟩) (fun E ce q9 H locs hk hE hM hce hcv hcl => ?_) (fun H locs hk hM => ?_)
  · have hq := tw_if hq hk
    obtain ⟨rfl, h9⟩ := Prod.mk.inj (Option.some.inj hq)
    obtain ⟨rfl, rfl⟩ := Prod.mk.inj h9
    exact ct_out hex hlocks hk hE hM hce hcv hcl hQQ (Nat.le_of_ble_eq_true rfl) (Nat.le_of_ble_eq_true rfl)
  have hq := tw_it hq hk
  refine lv_iload_n hx hb dcX11_maps_5 rfl (lv_at hl 2 rfl) ?_
  refine lv_iconst (v := 1) hx hb dcX11_maps_6 (by decide) ?_
  refine lv_icmp_lt (tgt := 15) hx hb dcX11_maps_7 (by decide) (fun hc => ?_) (fun hc => ?_)
  · have hq := tw_it hq hc
    obtain ⟨rfl, h9⟩ := Prod.mk.inj (Option.some.inj hq)
    obtain ⟨rfl, rfl⟩ := Prod.mk.inj h9
    exact ct_throwW (k := 2) (text := "permutations are of 1 to 4 things") (cls := "java/lang/IllegalArgumentException") hx hb hlt hown hex hlocks (by rw [hml]; exact hl.1.symm) hTh (List.mem_of_getElem? (i := 19) rfl) rfl (by decide) (by decide +kernel) (hts _ (List.mem_cons_of_mem _ wT_k2)) (hts _ (List.mem_cons_of_mem _ wT_i2)) (fun w h => hts w (List.mem_cons_of_mem _ (wT_2 w h))) th9_2 tg9_2 hM dcX11_maps_15 dcX11_maps_18 dcX11_maps_19 dcX11_maps_22 dcX11_maps_25 hQQ (Nat.le_of_ble_eq_true rfl) (Nat.le_of_ble_eq_true rfl) (Nat.le_of_ble_eq_true rfl) (Nat.le_of_ble_eq_true rfl) (Nat.le_of_ble_eq_true rfl) (Nat.le_of_ble_eq_true rfl)
  · have hq := tw_if hq hc
    refine lv_iload_n hx hb dcX11_maps_10 rfl (lv_at hl 2 rfl) ?_
    refine lv_iconst (v := 4) hx hb dcX11_maps_11 (by decide) ?_
    refine lv_icmp_le (tgt := 26) hx hb dcX11_maps_12 (by decide) (fun hc => ?_) (fun hc => ?_)
    · have hq := tw_it hq hc
      refine lv_aload_n hx hb dcX11_maps_26 rfl (lv_at hl 0 rfl) ?_
      refine vgX11_27 hx hb hT hown hK hM hr0 dcX11_maps_27 ?_
      refine lv_aload_n hx hb dcX11_maps_30 rfl (lv_at hl 0 rfl) ?_
      refine vgX11_14 hx hb hT hown hK hM hr0 dcX11_maps_31 ?_
      refine lv_iload_n hx hb dcX11_maps_34 rfl (lv_at hl 1 rfl) ?_
      obtain ⟨z3, hcq, hq⟩ := tw_cl0 hq
      refine uw_calv hU hM (va_runV (As := [.ref (u (r0 + 1000)), .int x1]) (rest := []) ⟨hx, hb, hml, hown, hts⟩ (kc_X7_load l D q vl u hU.1 K (r0 + 4000) (r0 + 1000) x1 (cs_X11_3 hr0) (cs_X11_0 hr0) z1 z3 hcq) (cwV 2 hts (tw_gV2 wT_good wT_C (wT_C _ xq_821) (wT_C _ xq_468) (wT_C _ xq_469) (wT_C _ xq_54) (wT_C _ xq_470)) rfl rfl rfl cdd_X7_load ⟨(Nat.le_of_ble_eq_true rfl), (Nat.le_of_ble_eq_true rfl)⟩) (cw_preV hK hM (co_X7 (cs_X11_3 hr0)) rfl) rfl rfl hl.1 rfl (lv_room (Nat.le_of_ble_eq_true rfl)) dcX11_maps_35 ⟨(Nat.le_of_ble_eq_true rfl), (Nat.le_of_ble_eq_true rfl)⟩) (fun H locs hM => ?_)
      refine lv_aload_n hx hb dcX11_maps_38 rfl (lv_at hl 0 rfl) ?_
      refine vgX11_27 hx hb hT hown hK hM hr0 dcX11_maps_39 ?_
      refine vgX11_198 hx hb hT hown hK hM (cs_X11_3 hr0) hq dcX11_maps_42 (fun v4 hq => ?_)
      refine lv_bipush (v := 7) hx hb dcX11_maps_45 (by decide) ?_
      refine lv_icmp_gt (tgt := 61) hx hb dcX11_maps_47 (by decide) (fun hc => ?_) (fun hc => ?_)
      · have hq := tw_it hq hc
        obtain ⟨rfl, h9⟩ := Prod.mk.inj (Option.some.inj hq)
        obtain ⟨rfl, rfl⟩ := Prod.mk.inj h9
        exact ct_throwW (k := 4) (text := "more than 7 crossings or 4 components") (cls := "java/lang/UnsupportedOperationException") hx hb hlt hown hex hlocks (by rw [hml]; exact hl.1.symm) hTh (List.mem_of_getElem? (i := 20) rfl) rfl (by decide) (by decide +kernel) (hts _ (List.mem_cons_of_mem _ wT_k4)) (hts _ (List.mem_cons_of_mem _ wT_i4)) (fun w h => hts w (List.mem_cons_of_mem _ (wT_4 w h))) th9_4 tg9_4 hM dcX11_maps_61 dcX11_maps_64 dcX11_maps_65 dcX11_maps_68 dcX11_maps_71 hQQ (Nat.le_of_ble_eq_true rfl) (Nat.le_of_ble_eq_true rfl) (Nat.le_of_ble_eq_true rfl) (Nat.le_of_ble_eq_true rfl) (Nat.le_of_ble_eq_true rfl) (Nat.le_of_ble_eq_true rfl)
      · have hq := tw_if hq hc
        refine lv_aload_n hx hb dcX11_maps_50 rfl (lv_at hl 0 rfl) ?_
        refine vgX11_27 hx hb hT hown hK hM hr0 dcX11_maps_51 ?_
        refine vgX11_201 hx hb hT hown hK hM (cs_X11_3 hr0) hq dcX11_maps_54 (fun v5 hq => ?_)
        refine lv_iconst (v := 4) hx hb dcX11_maps_57 (by decide) ?_
        refine lv_icmp_le (tgt := 72) hx hb dcX11_maps_58 (by decide) (fun hc => ?_) (fun hc => ?_)
        · have hq := tw_it hq hc
          refine lv_aload_n hx hb dcX11_maps_72 rfl (lv_at hl 0 rfl) ?_
          refine vgX11_72 hx hb hT hown hK hM hr0 dcX11_maps_73 ?_
          refine lv_aload_n hx hb dcX11_maps_76 rfl (lv_at hl 0 rfl) ?_
          refine vgX11_27 hx hb hT hown hK hM hr0 dcX11_maps_77 ?_
          refine lv_iload_n hx hb dcX11_maps_80 rfl (lv_at hl 2 rfl) ?_
          obtain ⟨v7, z6, hcq, hq⟩ := tw_cl1 hq
          refine uw_call hU hM (va_runV (As := [.ref (u (r0 + 4000)), .int x2]) (rest := []) ⟨hx, hb, hml, hown, hts⟩ (kc_X0_countMaps l D q vl u hU.1 K (r0 + 41000) (r0 + 4000) x2 (cs_X11_10 hr0) (cs_X11_3 hr0) z3 z6 v7 hcq) (cwV 2 hts (tw_gV2 wT_good wT_C (wT_C _ xq_930) (wT_C _ xq_931) (wT_C _ xq_932) (wT_C _ xq_24) (wT_C _ xq_116)) rfl rfl rfl cdd_X0_countMaps ⟨(Nat.le_of_ble_eq_true rfl), (Nat.le_of_ble_eq_true rfl)⟩) (cw_preV hK hM (co_X0 (cs_X11_10 hr0)) rfl) rfl rfl hl.1 rfl (lv_room (Nat.le_of_ble_eq_true rfl)) dcX11_maps_81 ⟨(Nat.le_of_ble_eq_true rfl), (Nat.le_of_ble_eq_true rfl)⟩) (fun H locs hM => ?_)
          refine lv_l2i hx hb dcX11_maps_84 rfl ?_
          exact ct_iret hx hb hr hlocks hM hq hQQ (Nat.le_of_ble_eq_true rfl) (Nat.le_of_ble_eq_true rfl) dcX11_maps_85
        · have hq := tw_if hq hc
          obtain ⟨rfl, h9⟩ := Prod.mk.inj (Option.some.inj hq)
          obtain ⟨rfl, rfl⟩ := Prod.mk.inj h9
          exact ct_throwW (k := 4) (text := "more than 7 crossings or 4 components") (cls := "java/lang/UnsupportedOperationException") hx hb hlt hown hex hlocks (by rw [hml]; exact hl.1.symm) hTh (List.mem_of_getElem? (i := 20) rfl) rfl (by decide) (by decide +kernel) (hts _ (List.mem_cons_of_mem _ wT_k4)) (hts _ (List.mem_cons_of_mem _ wT_i4)) (fun w h => hts w (List.mem_cons_of_mem _ (wT_4 w h))) th9_4 tg9_4 hM dcX11_maps_61 dcX11_maps_64 dcX11_maps_65 dcX11_maps_68 dcX11_maps_71 hQQ (Nat.le_of_ble_eq_true rfl) (Nat.le_of_ble_eq_true rfl) (Nat.le_of_ble_eq_true rfl) (Nat.le_of_ble_eq_true rfl) (Nat.le_of_ble_eq_true rfl) (Nat.le_of_ble_eq_true rfl)
    · have hq := tw_if hq hc
      obtain ⟨rfl, h9⟩ := Prod.mk.inj (Option.some.inj hq)
      obtain ⟨rfl, rfl⟩ := Prod.mk.inj h9
      exact ct_throwW (k := 2) (text := "permutations are of 1 to 4 things") (cls := "java/lang/IllegalArgumentException") hx hb hlt hown hex hlocks (by rw [hml]; exact hl.1.symm) hTh (List.mem_of_getElem? (i := 19) rfl) rfl (by decide) (by decide +kernel) (hts _ (List.mem_cons_of_mem _ wT_k2)) (hts _ (List.mem_cons_of_mem _ wT_i2)) (fun w h => hts w (List.mem_cons_of_mem _ (wT_2 w h))) th9_2 tg9_2 hM dcX11_maps_15 dcX11_maps_18 dcX11_maps_19 dcX11_maps_22 dcX11_maps_25 hQQ (Nat.le_of_ble_eq_true rfl) (Nat.le_of_ble_eq_true rfl) (Nat.le_of_ble_eq_true rfl) (Nat.le_of_ble_eq_true rfl) (Nat.le_of_ble_eq_true rfl) (Nat.le_of_ble_eq_true rfl)
theorem dcX11_closure_0 : decode cX11_closure 0 = .ok (.aload_n 0, 1) := dw_at cX11_closure_k0 (p := 0) rfl (by decide +kernel)
theorem dcX11_closure_1 : decode cX11_closure 1 = .ok (.iload_n 1, 1) := dw_at cX11_closure_k0 (p := 1) rfl (by decide +kernel)
theorem dcX11_closure_2 : decode cX11_closure 2 = .ok (.invokevirtual 379, 3) := dw_at cX11_closure_k0 (p := 2) rfl (by decide +kernel)
theorem dcX11_closure_5 : decode cX11_closure 5 = .ok (.aload_n 0, 1) := dw_at cX11_closure_k0 (p := 5) rfl (by decide +kernel)
theorem dcX11_closure_6 : decode cX11_closure 6 = .ok (.getfield 87, 3) := dw_at cX11_closure_k0 (p := 6) rfl (by decide +kernel)
theorem dcX11_closure_9 : decode cX11_closure 9 = .ok (.iload_n 1, 1) := dw_at cX11_closure_k0 (p := 9) rfl (by decide +kernel)
theorem dcX11_closure_10 : decode cX11_closure 10 = .ok (.iaload, 1) := dw_at cX11_closure_k0 (p := 10) rfl (by decide +kernel)
theorem dcX11_closure_11 : decode cX11_closure 11 = .ok (.bipush 12, 2) := dw_at cX11_closure_k0 (p := 11) rfl (by decide +kernel)
theorem dcX11_closure_13 : decode cX11_closure 13 = .ok (.if_icmp .le 14, 3) := dw_at cX11_closure_k0 (p := 13) rfl (by decide +kernel)
theorem dcX11_closure_16 : decode cX11_closure 16 = .ok (.new 263, 3) := dw_at cX11_closure_k0 (p := 16) rfl (by decide +kernel)
theorem dcX11_closure_19 : decode cX11_closure 19 = .ok (.dup, 1) := dw_at cX11_closure_k0 (p := 19) rfl (by decide +kernel)
theorem dcX11_closure_20 : decode cX11_closure 20 = .ok (.ldc_w 382, 3) := dw_at cX11_closure_k0 (p := 20) rfl (by decide +kernel)
theorem dcX11_closure_23 : decode cX11_closure 23 = .ok (.invokespecial 267, 3) := dw_at cX11_closure_k0 (p := 23) rfl (by decide +kernel)
theorem dcX11_closure_26 : decode cX11_closure 26 = .ok (.athrow, 1) := dw_at cX11_closure_k1 (p := 0) rfl (by decide +kernel)
theorem dcX11_closure_27 : decode cX11_closure 27 = .ok (.aload_n 0, 1) := dw_at cX11_closure_k1 (p := 1) rfl (by decide +kernel)
theorem dcX11_closure_28 : decode cX11_closure 28 = .ok (.invokevirtual 133, 3) := dw_at cX11_closure_k1 (p := 2) rfl (by decide +kernel)
theorem dcX11_closure_31 : decode cX11_closure 31 = .ok (.istore_n 2, 1) := dw_at cX11_closure_k1 (p := 5) rfl (by decide +kernel)
theorem dcX11_closure_32 : decode cX11_closure 32 = .ok (.aload_n 0, 1) := dw_at cX11_closure_k1 (p := 6) rfl (by decide +kernel)
theorem dcX11_closure_33 : decode cX11_closure 33 = .ok (.getfield 27, 3) := dw_at cX11_closure_k1 (p := 7) rfl (by decide +kernel)
theorem dcX11_closure_36 : decode cX11_closure 36 = .ok (.aload_n 0, 1) := dw_at cX11_closure_k1 (p := 10) rfl (by decide +kernel)
theorem dcX11_closure_37 : decode cX11_closure 37 = .ok (.getfield 83, 3) := dw_at cX11_closure_k1 (p := 11) rfl (by decide +kernel)
theorem dcX11_closure_40 : decode cX11_closure 40 = .ok (.iload_n 1, 1) := dw_at cX11_closure_k1 (p := 14) rfl (by decide +kernel)
theorem dcX11_closure_41 : decode cX11_closure 41 = .ok (.bipush 16, 2) := dw_at cX11_closure_k1 (p := 15) rfl (by decide +kernel)
theorem dcX11_closure_43 : decode cX11_closure 43 = .ok (.imul, 1) := dw_at cX11_closure_k1 (p := 17) rfl (by decide +kernel)
theorem dcX11_closure_44 : decode cX11_closure 44 = .ok (.aload_n 0, 1) := dw_at cX11_closure_k1 (p := 18) rfl (by decide +kernel)
theorem dcX11_closure_45 : decode cX11_closure 45 = .ok (.getfield 87, 3) := dw_at cX11_closure_k1 (p := 19) rfl (by decide +kernel)
theorem dcX11_closure_48 : decode cX11_closure 48 = .ok (.iload_n 1, 1) := dw_at cX11_closure_k1 (p := 22) rfl (by decide +kernel)
theorem dcX11_closure_49 : decode cX11_closure 49 = .ok (.iaload, 1) := dw_at cX11_closure_k1 (p := 23) rfl (by decide +kernel)
theorem dcX11_closure_50 : decode cX11_closure 50 = .ok (.aload_n 0, 1) := dw_at cX11_closure_k2 (p := 0) rfl (by decide +kernel)
theorem dcX11_closure_51 : decode cX11_closure 51 = .ok (.getfield 91, 3) := dw_at cX11_closure_k2 (p := 1) rfl (by decide +kernel)
theorem dcX11_closure_54 : decode cX11_closure 54 = .ok (.iload_n 1, 1) := dw_at cX11_closure_k2 (p := 4) rfl (by decide +kernel)
theorem dcX11_closure_55 : decode cX11_closure 55 = .ok (.iaload, 1) := dw_at cX11_closure_k2 (p := 5) rfl (by decide +kernel)
theorem dcX11_closure_56 : decode cX11_closure 56 = .ok (.invokevirtual 384, 3) := dw_at cX11_closure_k2 (p := 6) rfl (by decide +kernel)
theorem dcX11_closure_59 : decode cX11_closure 59 = .ok (.aload_n 0, 1) := dw_at cX11_closure_k2 (p := 9) rfl (by decide +kernel)
theorem dcX11_closure_60 : decode cX11_closure 60 = .ok (.iload_n 2, 1) := dw_at cX11_closure_k2 (p := 10) rfl (by decide +kernel)
theorem dcX11_closure_61 : decode cX11_closure 61 = .ok (.invokevirtual 145, 3) := dw_at cX11_closure_k2 (p := 11) rfl (by decide +kernel)
theorem dcX11_closure_64 : decode cX11_closure 64 = .ok (.ireturn, 1) := dw_at cX11_closure_k2 (p := 14) rfl (by decide +kernel)
def cm_X11_closure_0 (vl : Nat → Nat) (K : Nat) (x1 : Int32) (r0 : Nat) (z : ow_MS) : Option (Nat × Int32 × ow_MS) :=
 tc0 (ce_X11_needBraid vl K r0 x1 z) (fun k z => some (k, 0, z)) fun z1 => crI (cX vl) z1 (r0 + 14) x1 fun v3 => (if v3 ≤ 12 then tc1 (ce_X11_freeDiagram vl K r0 z1) (fun k z => some (k, 0, z)) fun v6 z4 => crI (cX vl) z4 (r0 + 14) x1 fun v7 => crI (cX vl) z4 (r0 + 15) x1 fun v8 => cs0 (ce_X7_close vl K (r0 + 4000) (r0 + 13) (x1 * 16) v7 v8 z4) fun z9 => cs1 (ce_X11_keep vl K r0 v6 z9) fun v11 z10 => some (0, v11, z10)
 else some (4, 0, z1))
def ce_X11_closure (vl : Nat → Nat) (K : Nat) (r0 : Nat) (x1 : Int32) (z : ow_MS) : Option (Nat × Int32 × ow_MS) := cm_X11_closure_0 vl K x1 r0 z
abbrev wc_X11_closure : List Cond := .code yX11_closure cX11_closure 3 (some .int) :: wT
theorem cdd_X11_closure : yX11_closure.cls = RX11 ∧ yX11_closure.cls ≠ "java/lang/invoke/MethodHandle" ∧ yX11_closure.cls ≠ "java/lang/invoke/VarHandle" ∧ (parseMethodDescriptor yX11_closure.desc).map (fun d => d.parameters.length) = some 1 := by decide +kernel
set_option maxHeartbeats 4000000 in
set_option maxRecDepth 100000 in
theorem kc_X11_closure (l : Launch) (D : va_G) (q : Nat → ClassId) (vl u : Nat → Nat) (hU0 : tw_inj (cX vl) u) (hlt : l.stackTraces = false) (sa : Nat → Nat) (K : Nat) (r0 : Nat) (x1 : Int32) (hr0 : cw_X11 r0) (z z1 : ow_MS) (k9 : Nat) (r : Int32) (hq : ce_X11_closure vl K r0 x1 z = some (k9, r, z1)) : vx_Met l yX11_closure wc_X11_closure ({ frames := 7, cells := 3, slots := 18, locals := 176 } : Room) (va_Pc [.ref (u r0), .int x1] (cw_preT D q vl u sa z)) (va_Qi (fun x (_ : Unit) => k9 = 0 ∧ x = r) (fun _ t => va_P D vwCl (uw (cX vl) q u z1) t.heap) (tw_A (cX vl) u)) (ct_X D q vl u k9 z1) 3 18 (tw_A (cX vl) u) := by
  refine vx_ofW (cc := cX11_closure) (maxL := 3) (ret := (some .int)) (by decide) rfl ?_
  intro p e s m args below meth c s₁ B hml hex hv
  obtain ⟨rfl, hP, hK, hTh⟩ := hv
  have hx := B.exec
  have hb := B.bytes
  have hr := B.returns
  have hts := atoms_spec (ws := wc_X11_closure) B.pre
  have hT : ∀ w ∈ wC, w.before ([.ref (u r0), .int x1] : List Value).toArray s = true := fun w h => hts w (List.mem_cons_of_mem _ (wT_C w h))
  have hown : s.vm.findClass RX11 = some m.cls := findClass_of_methodNamed B.named
  have hlocks := B.notSynchronized
  have hU : uw_inj (cX vl) u (tw_A (cX vl) u) := ⟨hU0, fun h hh => ⟨h, hh, rfl⟩⟩
  have hM : uw_M D vwCl (cX vl) q (tw_A (cX vl) u) s.heap u z s.heap [] := ⟨hP, va_S.rf⟩
  have hl := lv_entry ([.ref (u r0), .int x1]) (n := 3) (Nat.le_of_ble_eq_true rfl)
  rw [lg_entry_eq]
  generalize (lg_sl ([.ref (u r0), .int x1]) ++ List.replicate (3 - (lg_sl ([.ref (u r0), .int x1])).length) Slot.unset).toArray = ls at hl ⊢
  have hl : lv_has ls 3 [(0, .ref (u r0)), (1, .int x1)] := hl
  refine ow_named (fun QQ hQQ => ?_)
  generalize ([.ref (u r0), .int x1] : List Value).toArray = args at hts hT hQQ ⊢
  have hq : cm_X11_closure_0 vl K x1 r0 z = some (k9, r, z1) := hq
  unfold cm_X11_closure_0 at hq
  suffices key : ∀ (H : Heap) (locs : List Loc), uw_M D vwCl (cX vl) q (tw_A (cX vl) u) s.heap u z H locs → W p l e ({ frames := 7, cells := 3, slots := 18, locals := 176 } : Room) s m args below meth c H locs 0 0 QQ (F0 m 0 ls []) from key s.heap [] hM
  intro H locs hM
  refine lv_aload_n hx hb dcX11_closure_0 rfl (lv_at hl 0 rfl) ?_
  refine lv_iload_n hx hb dcX11_closure_1 rfl (lv_at hl 1 rfl) ?_
  obtain ⟨k2, z1, hcq, hq⟩ := ct_tc0 hq
  refine ct_calv hU hM (vx_runV (As := [.int x1]) (rest := []) ⟨hx, hb, hml, hown, hts⟩ (kc_X11_needBraid l D q vl u hU.1 hlt sa K r0 x1 hr0 z z1 k2 hcq) (cwV 1 hts (tw_gV2 wT_good (fun _ h => h) (wT_C _ xq_946) (wT_C _ xq_947) (wT_C _ xq_948) (wT_C _ xq_773) (wT_C _ xq_811)) rfl rfl rfl cdd_X11_needBraid ⟨(Nat.le_of_ble_eq_true rfl), (Nat.le_of_ble_eq_true rfl)⟩) (ct_preV hK hTh hM (co_X11 hr0) rfl) rfl rfl hl.1 rfl (lv_room (Nat.le_of_ble_eq_true rfl)) dcX11_closure_2 ⟨(Nat.le_of_ble_eq_true rfl), (Nat.le_of_ble_eq_true rfl)⟩) (fun E ce q9 H locs hk hE hM hce hcv hcl => ?_) (fun H locs hk hM => ?_)
  · have hq := tw_if hq hk
    obtain ⟨rfl, h9⟩ := Prod.mk.inj (Option.some.inj hq)
    obtain ⟨rfl, rfl⟩ := Prod.mk.inj h9
    exact ct_out hex hlocks hk hE hM hce hcv hcl hQQ (Nat.le_of_ble_eq_true rfl) (Nat.le_of_ble_eq_true rfl)
  have hq := tw_it hq hk
  refine lv_aload_n hx hb dcX11_closure_5 rfl (lv_at hl 0 rfl) ?_
  refine vgX11_87 hx hb hT hown hK hM hr0 dcX11_closure_6 ?_
  refine lv_iload_n hx hb dcX11_closure_9 rfl (lv_at hl 1 rfl) ?_
  refine uw_iald cX_ok hx hb hK hM (cr_X11_13 hr0) hq dcX11_closure_10 (fun v3 hq => ?_)
  refine lv_bipush (v := 12) hx hb dcX11_closure_11 (by decide) ?_
  refine lv_icmp_le (tgt := 27) hx hb dcX11_closure_13 (by decide) (fun hc => ?_) (fun hc => ?_)
  · have hq := tw_it hq hc
    refine lv_aload_n hx hb dcX11_closure_27 rfl (lv_at hl 0 rfl) ?_
    obtain ⟨k5, v6, z4, hcq, hq⟩ := ct_tc1 hq
    refine ct_cali hU hM (vx_runV (As := []) (rest := []) ⟨hx, hb, hml, hown, hts⟩ (kc_X11_freeDiagram l D q vl u hU.1 hlt sa K r0 hr0 z1 z4 k5 v6 hcq) (cwV 0 hts (tw_gV2 wT_good (fun _ h => h) (wT_C _ xq_770) (wT_C _ xq_771) (wT_C _ xq_772) (wT_C _ xq_773) (wT_C _ xq_774)) rfl rfl rfl cdd_X11_freeDiagram ⟨(Nat.le_of_ble_eq_true rfl), (Nat.le_of_ble_eq_true rfl)⟩) (ct_preV hK hTh hM (co_X11 hr0) rfl) rfl rfl hl.1 rfl (lv_room (Nat.le_of_ble_eq_true rfl)) dcX11_closure_28 ⟨(Nat.le_of_ble_eq_true rfl), (Nat.le_of_ble_eq_true rfl)⟩) (fun E ce q9 H locs hk hE hM hce hcv hcl => ?_) (fun H locs hk hM => ?_)
    · have hq := tw_if hq hk
      obtain ⟨rfl, h9⟩ := Prod.mk.inj (Option.some.inj hq)
      obtain ⟨rfl, rfl⟩ := Prod.mk.inj h9
      exact ct_out hex hlocks hk hE hM hce hcv hcl hQQ (Nat.le_of_ble_eq_true rfl) (Nat.le_of_ble_eq_true rfl)
    have hq := tw_it hq hk
    refine lv_istore_n (lv' := [(2, .int v6), (0, .ref (u r0)), (1, .int x1)]) hx hb dcX11_closure_31 rfl hl (by decide) rfl (fun ls hl => ?_)
    refine lv_aload_n hx hb dcX11_closure_32 rfl (lv_at hl 1 rfl) ?_
    refine vgX11_27 hx hb hT hown hK hM hr0 dcX11_closure_33 ?_
    refine lv_aload_n hx hb dcX11_closure_36 rfl (lv_at hl 1 rfl) ?_
    refine vgX11_83 hx hb hT hown hK hM hr0 dcX11_closure_37 ?_
    refine lv_iload_n hx hb dcX11_closure_40 rfl (lv_at hl 2 rfl) ?_
    refine lv_bipush (v := 16) hx hb dcX11_closure_41 (by decide) ?_
    refine lv_imul hx hb dcX11_closure_43 ?_
    refine lv_aload_n hx hb dcX11_closure_44 rfl (lv_at hl 1 rfl) ?_
    refine vgX11_87 hx hb hT hown hK hM hr0 dcX11_closure_45 ?_
    refine lv_iload_n hx hb dcX11_closure_48 rfl (lv_at hl 2 rfl) ?_
    refine uw_iald cX_ok hx hb hK hM (cr_X11_13 hr0) hq dcX11_closure_49 (fun v7 hq => ?_)
    refine lv_aload_n hx hb dcX11_closure_50 rfl (lv_at hl 1 rfl) ?_
    refine vgX11_91 hx hb hT hown hK hM hr0 dcX11_closure_51 ?_
    refine lv_iload_n hx hb dcX11_closure_54 rfl (lv_at hl 2 rfl) ?_
    refine uw_iald cX_ok hx hb hK hM (cr_X11_14 hr0) hq dcX11_closure_55 (fun v8 hq => ?_)
    obtain ⟨z9, hcq, hq⟩ := tw_cl0 hq
    refine uw_calv hU hM (va_runV (As := [.ref (u (r0 + 13)), .int (x1 * 16), .int v7, .int v8]) (rest := []) ⟨hx, hb, hml, hown, hts⟩ (kc_X7_close l D q vl u hU.1 K (r0 + 4000) (r0 + 13) (x1 * 16) v7 v8 (cs_X11_3 hr0) (cr_X11_12 hr0) z4 z9 hcq) (cwV 4 hts (tw_gV2 wT_good wT_C (wT_C _ xq_949) (wT_C _ xq_950) (wT_C _ xq_951) (wT_C _ xq_54) (wT_C _ xq_597)) rfl rfl rfl cdd_X7_close ⟨(Nat.le_of_ble_eq_true rfl), (Nat.le_of_ble_eq_true rfl)⟩) (cw_preV hK hM (co_X7 (cs_X11_3 hr0)) rfl) rfl rfl hl.1 rfl (lv_room (Nat.le_of_ble_eq_true rfl)) dcX11_closure_56 ⟨(Nat.le_of_ble_eq_true rfl), (Nat.le_of_ble_eq_true rfl)⟩) (fun H locs hM => ?_)
    refine lv_aload_n hx hb dcX11_closure_59 rfl (lv_at hl 1 rfl) ?_
    refine lv_iload_n hx hb dcX11_closure_60 rfl (lv_at hl 0 rfl) ?_
    obtain ⟨v11, z10, hcq, hq⟩ := tw_cl1 hq
    refine uw_cali hU hM (va_runV (As := [.int v6]) (rest := []) ⟨hx, hb, hml, hown, hts⟩ (kc_X11_keep l D q vl u hU.1 K r0 v6 hr0 z9 z10 v11 hcq) (cwV 1 hts (tw_gV2 wT_good wT_C (wT_C _ xq_781) (wT_C _ xq_782) (wT_C _ xq_783) (wT_C _ xq_773) (wT_C _ xq_784)) rfl rfl rfl cdd_X11_keep ⟨(Nat.le_of_ble_eq_true rfl), (Nat.le_of_ble_eq_true rfl)⟩) (cw_preV hK hM (co_X11 hr0) rfl) rfl rfl hl.1 rfl (lv_room (Nat.le_of_ble_eq_true rfl)) dcX11_closure_61 ⟨(Nat.le_of_ble_eq_true rfl), (Nat.le_of_ble_eq_true rfl)⟩) (fun H locs hM => ?_)
    exact ct_iret hx hb hr hlocks hM hq hQQ (Nat.le_of_ble_eq_true rfl) (Nat.le_of_ble_eq_true rfl) dcX11_closure_64
  · have hq := tw_if hq hc
    obtain ⟨rfl, h9⟩ := Prod.mk.inj (Option.some.inj hq)
    obtain ⟨rfl, rfl⟩ := Prod.mk.inj h9
    exact ct_throwW (k := 4) (text := "more than 12 letters") (cls := "java/lang/UnsupportedOperationException") hx hb hlt hown hex hlocks (by rw [hml]; exact hl.1.symm) hTh (List.mem_of_getElem? (i := 23) rfl) rfl (by decide) (by decide +kernel) (hts _ (List.mem_cons_of_mem _ wT_k4)) (hts _ (List.mem_cons_of_mem _ wT_i4)) (fun w h => hts w (List.mem_cons_of_mem _ (wT_4 w h))) th9_4 tg9_4 hM dcX11_closure_16 dcX11_closure_19 dcX11_closure_20 dcX11_closure_23 dcX11_closure_26 hQQ (Nat.le_of_ble_eq_true rfl) (Nat.le_of_ble_eq_true rfl) (Nat.le_of_ble_eq_true rfl) (Nat.le_of_ble_eq_true rfl) (Nat.le_of_ble_eq_true rfl) (Nat.le_of_ble_eq_true rfl)
theorem dcX11_product_0 : decode cX11_product 0 = .ok (.aload_n 0, 1) := dw_at cX11_product_k0 (p := 0) rfl (by decide +kernel)
theorem dcX11_product_1 : decode cX11_product 1 = .ok (.iload_n 1, 1) := dw_at cX11_product_k0 (p := 1) rfl (by decide +kernel)
theorem dcX11_product_2 : decode cX11_product 2 = .ok (.invokevirtual 379, 3) := dw_at cX11_product_k0 (p := 2) rfl (by decide +kernel)
theorem dcX11_product_5 : decode cX11_product 5 = .ok (.aload_n 0, 1) := dw_at cX11_product_k0 (p := 5) rfl (by decide +kernel)
theorem dcX11_product_6 : decode cX11_product 6 = .ok (.iload_n 2, 1) := dw_at cX11_product_k0 (p := 6) rfl (by decide +kernel)
theorem dcX11_product_7 : decode cX11_product 7 = .ok (.invokevirtual 379, 3) := dw_at cX11_product_k0 (p := 7) rfl (by decide +kernel)
theorem dcX11_product_10 : decode cX11_product 10 = .ok (.aload_n 0, 1) := dw_at cX11_product_k0 (p := 10) rfl (by decide +kernel)
theorem dcX11_product_11 : decode cX11_product 11 = .ok (.getfield 91, 3) := dw_at cX11_product_k0 (p := 11) rfl (by decide +kernel)
theorem dcX11_product_14 : decode cX11_product 14 = .ok (.iload_n 1, 1) := dw_at cX11_product_k0 (p := 14) rfl (by decide +kernel)
theorem dcX11_product_15 : decode cX11_product 15 = .ok (.iaload, 1) := dw_at cX11_product_k0 (p := 15) rfl (by decide +kernel)
theorem dcX11_product_16 : decode cX11_product 16 = .ok (.aload_n 0, 1) := dw_at cX11_product_k0 (p := 16) rfl (by decide +kernel)
theorem dcX11_product_17 : decode cX11_product 17 = .ok (.getfield 91, 3) := dw_at cX11_product_k0 (p := 17) rfl (by decide +kernel)
theorem dcX11_product_20 : decode cX11_product 20 = .ok (.iload_n 2, 1) := dw_at cX11_product_k0 (p := 20) rfl (by decide +kernel)
theorem dcX11_product_21 : decode cX11_product 21 = .ok (.iaload, 1) := dw_at cX11_product_k0 (p := 21) rfl (by decide +kernel)
theorem dcX11_product_22 : decode cX11_product 22 = .ok (.if_icmp .eq 14, 3) := dw_at cX11_product_k0 (p := 22) rfl (by decide +kernel)
theorem dcX11_product_25 : decode cX11_product 25 = .ok (.new 128, 3) := dw_at cX11_product_k1 (p := 0) rfl (by decide +kernel)
theorem dcX11_product_28 : decode cX11_product 28 = .ok (.dup, 1) := dw_at cX11_product_k1 (p := 3) rfl (by decide +kernel)
theorem dcX11_product_29 : decode cX11_product 29 = .ok (.ldc_w 388, 3) := dw_at cX11_product_k1 (p := 4) rfl (by decide +kernel)
theorem dcX11_product_32 : decode cX11_product 32 = .ok (.invokespecial 132, 3) := dw_at cX11_product_k1 (p := 7) rfl (by decide +kernel)
theorem dcX11_product_35 : decode cX11_product 35 = .ok (.athrow, 1) := dw_at cX11_product_k1 (p := 10) rfl (by decide +kernel)
theorem dcX11_product_36 : decode cX11_product 36 = .ok (.aload_n 0, 1) := dw_at cX11_product_k1 (p := 11) rfl (by decide +kernel)
theorem dcX11_product_37 : decode cX11_product 37 = .ok (.getfield 87, 3) := dw_at cX11_product_k1 (p := 12) rfl (by decide +kernel)
theorem dcX11_product_40 : decode cX11_product 40 = .ok (.iload_n 1, 1) := dw_at cX11_product_k1 (p := 15) rfl (by decide +kernel)
theorem dcX11_product_41 : decode cX11_product 41 = .ok (.iaload, 1) := dw_at cX11_product_k1 (p := 16) rfl (by decide +kernel)
theorem dcX11_product_42 : decode cX11_product 42 = .ok (.aload_n 0, 1) := dw_at cX11_product_k1 (p := 17) rfl (by decide +kernel)
theorem dcX11_product_43 : decode cX11_product 43 = .ok (.getfield 87, 3) := dw_at cX11_product_k1 (p := 18) rfl (by decide +kernel)
theorem dcX11_product_46 : decode cX11_product 46 = .ok (.iload_n 2, 1) := dw_at cX11_product_k1 (p := 21) rfl (by decide +kernel)
theorem dcX11_product_47 : decode cX11_product 47 = .ok (.iaload, 1) := dw_at cX11_product_k1 (p := 22) rfl (by decide +kernel)
theorem dcX11_product_48 : decode cX11_product 48 = .ok (.iadd, 1) := dw_at cX11_product_k1 (p := 23) rfl (by decide +kernel)
theorem dcX11_product_49 : decode cX11_product 49 = .ok (.bipush 16, 2) := dw_at cX11_product_k2 (p := 0) rfl (by decide +kernel)
theorem dcX11_product_51 : decode cX11_product 51 = .ok (.if_icmp .le 14, 3) := dw_at cX11_product_k2 (p := 2) rfl (by decide +kernel)
theorem dcX11_product_54 : decode cX11_product 54 = .ok (.new 263, 3) := dw_at cX11_product_k2 (p := 5) rfl (by decide +kernel)
theorem dcX11_product_57 : decode cX11_product 57 = .ok (.dup, 1) := dw_at cX11_product_k2 (p := 8) rfl (by decide +kernel)
theorem dcX11_product_58 : decode cX11_product 58 = .ok (.ldc_w 390, 3) := dw_at cX11_product_k2 (p := 9) rfl (by decide +kernel)
theorem dcX11_product_61 : decode cX11_product 61 = .ok (.invokespecial 267, 3) := dw_at cX11_product_k2 (p := 12) rfl (by decide +kernel)
theorem dcX11_product_64 : decode cX11_product 64 = .ok (.athrow, 1) := dw_at cX11_product_k2 (p := 15) rfl (by decide +kernel)
theorem dcX11_product_65 : decode cX11_product 65 = .ok (.aload_n 0, 1) := dw_at cX11_product_k2 (p := 16) rfl (by decide +kernel)
theorem dcX11_product_66 : decode cX11_product 66 = .ok (.invokevirtual 151, 3) := dw_at cX11_product_k2 (p := 17) rfl (by decide +kernel)
theorem dcX11_product_69 : decode cX11_product 69 = .ok (.istore_n 3, 1) := dw_at cX11_product_k2 (p := 20) rfl (by decide +kernel)
theorem dcX11_product_70 : decode cX11_product 70 = .ok (.iload_n 3, 1) := dw_at cX11_product_k2 (p := 21) rfl (by decide +kernel)
theorem dcX11_product_71 : decode cX11_product 71 = .ok (.bipush 16, 2) := dw_at cX11_product_k2 (p := 22) rfl (by decide +kernel)
theorem dcX11_product_73 : decode cX11_product 73 = .ok (.imul, 1) := dw_at cX11_product_k3 (p := 0) rfl (by decide +kernel)
theorem dcX11_product_74 : decode cX11_product 74 = .ok (.istore 4, 2) := dw_at cX11_product_k3 (p := 1) rfl (by decide +kernel)
theorem dcX11_product_76 : decode cX11_product 76 = .ok (.aload_n 0, 1) := dw_at cX11_product_k3 (p := 3) rfl (by decide +kernel)
theorem dcX11_product_77 : decode cX11_product 77 = .ok (.getfield 83, 3) := dw_at cX11_product_k3 (p := 4) rfl (by decide +kernel)
theorem dcX11_product_80 : decode cX11_product 80 = .ok (.iload_n 1, 1) := dw_at cX11_product_k3 (p := 7) rfl (by decide +kernel)
theorem dcX11_product_81 : decode cX11_product 81 = .ok (.bipush 16, 2) := dw_at cX11_product_k3 (p := 8) rfl (by decide +kernel)
theorem dcX11_product_83 : decode cX11_product 83 = .ok (.imul, 1) := dw_at cX11_product_k3 (p := 10) rfl (by decide +kernel)
theorem dcX11_product_84 : decode cX11_product 84 = .ok (.aload_n 0, 1) := dw_at cX11_product_k3 (p := 11) rfl (by decide +kernel)
theorem dcX11_product_85 : decode cX11_product 85 = .ok (.getfield 83, 3) := dw_at cX11_product_k3 (p := 12) rfl (by decide +kernel)
theorem dcX11_product_88 : decode cX11_product 88 = .ok (.iload 4, 2) := dw_at cX11_product_k3 (p := 15) rfl (by decide +kernel)
theorem dcX11_product_90 : decode cX11_product 90 = .ok (.aload_n 0, 1) := dw_at cX11_product_k3 (p := 17) rfl (by decide +kernel)
theorem dcX11_product_91 : decode cX11_product 91 = .ok (.getfield 87, 3) := dw_at cX11_product_k3 (p := 18) rfl (by decide +kernel)
theorem dcX11_product_94 : decode cX11_product 94 = .ok (.iload_n 1, 1) := dw_at cX11_product_k3 (p := 21) rfl (by decide +kernel)
theorem dcX11_product_95 : decode cX11_product 95 = .ok (.iaload, 1) := dw_at cX11_product_k3 (p := 22) rfl (by decide +kernel)
theorem dcX11_product_96 : decode cX11_product 96 = .ok (.invokestatic 392, 3) := dw_at cX11_product_k3 (p := 23) rfl (by decide +kernel)
theorem dcX11_product_99 : decode cX11_product 99 = .ok (.aload_n 0, 1) := dw_at cX11_product_k4 (p := 0) rfl (by decide +kernel)
theorem dcX11_product_100 : decode cX11_product 100 = .ok (.getfield 83, 3) := dw_at cX11_product_k4 (p := 1) rfl (by decide +kernel)
theorem dcX11_product_103 : decode cX11_product 103 = .ok (.iload_n 2, 1) := dw_at cX11_product_k4 (p := 4) rfl (by decide +kernel)
theorem dcX11_product_104 : decode cX11_product 104 = .ok (.bipush 16, 2) := dw_at cX11_product_k4 (p := 5) rfl (by decide +kernel)
theorem dcX11_product_106 : decode cX11_product 106 = .ok (.imul, 1) := dw_at cX11_product_k4 (p := 7) rfl (by decide +kernel)
theorem dcX11_product_107 : decode cX11_product 107 = .ok (.aload_n 0, 1) := dw_at cX11_product_k4 (p := 8) rfl (by decide +kernel)
theorem dcX11_product_108 : decode cX11_product 108 = .ok (.getfield 83, 3) := dw_at cX11_product_k4 (p := 9) rfl (by decide +kernel)
theorem dcX11_product_111 : decode cX11_product 111 = .ok (.iload 4, 2) := dw_at cX11_product_k4 (p := 12) rfl (by decide +kernel)
theorem dcX11_product_113 : decode cX11_product 113 = .ok (.aload_n 0, 1) := dw_at cX11_product_k4 (p := 14) rfl (by decide +kernel)
theorem dcX11_product_114 : decode cX11_product 114 = .ok (.getfield 87, 3) := dw_at cX11_product_k4 (p := 15) rfl (by decide +kernel)
theorem dcX11_product_117 : decode cX11_product 117 = .ok (.iload_n 1, 1) := dw_at cX11_product_k4 (p := 18) rfl (by decide +kernel)
theorem dcX11_product_118 : decode cX11_product 118 = .ok (.iaload, 1) := dw_at cX11_product_k4 (p := 19) rfl (by decide +kernel)
theorem dcX11_product_119 : decode cX11_product 119 = .ok (.iadd, 1) := dw_at cX11_product_k4 (p := 20) rfl (by decide +kernel)
theorem dcX11_product_120 : decode cX11_product 120 = .ok (.aload_n 0, 1) := dw_at cX11_product_k4 (p := 21) rfl (by decide +kernel)
theorem dcX11_product_121 : decode cX11_product 121 = .ok (.getfield 87, 3) := dw_at cX11_product_k4 (p := 22) rfl (by decide +kernel)
theorem dcX11_product_124 : decode cX11_product 124 = .ok (.iload_n 2, 1) := dw_at cX11_product_k5 (p := 0) rfl (by decide +kernel)
theorem dcX11_product_125 : decode cX11_product 125 = .ok (.iaload, 1) := dw_at cX11_product_k5 (p := 1) rfl (by decide +kernel)
theorem dcX11_product_126 : decode cX11_product 126 = .ok (.invokestatic 392, 3) := dw_at cX11_product_k5 (p := 2) rfl (by decide +kernel)
theorem dcX11_product_129 : decode cX11_product 129 = .ok (.aload_n 0, 1) := dw_at cX11_product_k5 (p := 5) rfl (by decide +kernel)
theorem dcX11_product_130 : decode cX11_product 130 = .ok (.getfield 87, 3) := dw_at cX11_product_k5 (p := 6) rfl (by decide +kernel)
theorem dcX11_product_133 : decode cX11_product 133 = .ok (.iload_n 3, 1) := dw_at cX11_product_k5 (p := 9) rfl (by decide +kernel)
theorem dcX11_product_134 : decode cX11_product 134 = .ok (.aload_n 0, 1) := dw_at cX11_product_k5 (p := 10) rfl (by decide +kernel)
theorem dcX11_product_135 : decode cX11_product 135 = .ok (.getfield 87, 3) := dw_at cX11_product_k5 (p := 11) rfl (by decide +kernel)
theorem dcX11_product_138 : decode cX11_product 138 = .ok (.iload_n 1, 1) := dw_at cX11_product_k5 (p := 14) rfl (by decide +kernel)
theorem dcX11_product_139 : decode cX11_product 139 = .ok (.iaload, 1) := dw_at cX11_product_k5 (p := 15) rfl (by decide +kernel)
theorem dcX11_product_140 : decode cX11_product 140 = .ok (.aload_n 0, 1) := dw_at cX11_product_k5 (p := 16) rfl (by decide +kernel)
theorem dcX11_product_141 : decode cX11_product 141 = .ok (.getfield 87, 3) := dw_at cX11_product_k5 (p := 17) rfl (by decide +kernel)
theorem dcX11_product_144 : decode cX11_product 144 = .ok (.iload_n 2, 1) := dw_at cX11_product_k5 (p := 20) rfl (by decide +kernel)
theorem dcX11_product_145 : decode cX11_product 145 = .ok (.iaload, 1) := dw_at cX11_product_k5 (p := 21) rfl (by decide +kernel)
theorem dcX11_product_146 : decode cX11_product 146 = .ok (.iadd, 1) := dw_at cX11_product_k5 (p := 22) rfl (by decide +kernel)
theorem dcX11_product_147 : decode cX11_product 147 = .ok (.iastore, 1) := dw_at cX11_product_k5 (p := 23) rfl (by decide +kernel)
theorem dcX11_product_148 : decode cX11_product 148 = .ok (.aload_n 0, 1) := dw_at cX11_product_k6 (p := 0) rfl (by decide +kernel)
theorem dcX11_product_149 : decode cX11_product 149 = .ok (.getfield 91, 3) := dw_at cX11_product_k6 (p := 1) rfl (by decide +kernel)
theorem dcX11_product_152 : decode cX11_product 152 = .ok (.iload_n 3, 1) := dw_at cX11_product_k6 (p := 4) rfl (by decide +kernel)
theorem dcX11_product_153 : decode cX11_product 153 = .ok (.aload_n 0, 1) := dw_at cX11_product_k6 (p := 5) rfl (by decide +kernel)
theorem dcX11_product_154 : decode cX11_product 154 = .ok (.getfield 91, 3) := dw_at cX11_product_k6 (p := 6) rfl (by decide +kernel)
theorem dcX11_product_157 : decode cX11_product 157 = .ok (.iload_n 1, 1) := dw_at cX11_product_k6 (p := 9) rfl (by decide +kernel)
theorem dcX11_product_158 : decode cX11_product 158 = .ok (.iaload, 1) := dw_at cX11_product_k6 (p := 10) rfl (by decide +kernel)
theorem dcX11_product_159 : decode cX11_product 159 = .ok (.iastore, 1) := dw_at cX11_product_k6 (p := 11) rfl (by decide +kernel)
theorem dcX11_product_160 : decode cX11_product 160 = .ok (.iload_n 3, 1) := dw_at cX11_product_k6 (p := 12) rfl (by decide +kernel)
theorem dcX11_product_161 : decode cX11_product 161 = .ok (.ireturn, 1) := dw_at cX11_product_k6 (p := 13) rfl (by decide +kernel)
def cm_X11_product_0 (vl : Nat → Nat) (K : Nat) (x1 : Int32) (x2 : Int32) (r0 : Nat) (z : ow_MS) : Option (Nat × Int32 × ow_MS) :=
 tc0 (ce_X11_needBraid vl K r0 x1 z) (fun k z => some (k, 0, z)) fun z1 => tc0 (ce_X11_needBraid vl K r0 x2 z1) (fun k z => some (k, 0, z)) fun z3 => crI (cX vl) z3 (r0 + 15) x1 fun v5 => crI (cX vl) z3 (r0 + 15) x2 fun v6 => (if v5 = v6 then crI (cX vl) z3 (r0 + 14) x1 fun v7 => crI (cX vl) z3 (r0 + 14) x2 fun v8 => (if (v7 + v8) ≤ 16 then tc1 (ce_X11_freeBraid vl K r0 z3) (fun k z => some (k, 0, z)) fun v11 z9 => crI (cX vl) z9 (r0 + 14) x1 fun v12 => cpB (cX vl) z9 (r0 + 13) (x1 * 16) (r0 + 13) (v11 * 16) v12 fun z13 => crI (cX vl) z13 (r0 + 14) x1 fun v14 => crI (cX vl) z13 (r0 + 14) x2 fun v15 => cpB (cX vl) z13 (r0 + 13) (x2 * 16) (r0 + 13) ((v11 * 16) + v14) v15 fun z16 => crI (cX vl) z16 (r0 + 14) x1 fun v17 => crI (cX vl) z16 (r0 + 14) x2 fun v18 => ctI (cX vl) z16 (r0 + 14) v11 (v17 + v18) fun z19 => crI (cX vl) z19 (r0 + 15) x1 fun v20 => ctI (cX vl) z19 (r0 + 15) v11 v20 fun z21 => some (0, v11, z21)
 else some (4, 0, z3))
 else some (2, 0, z3))
def ce_X11_product (vl : Nat → Nat) (K : Nat) (r0 : Nat) (x1 : Int32) (x2 : Int32) (z : ow_MS) : Option (Nat × Int32 × ow_MS) := cm_X11_product_0 vl K x1 x2 r0 z
abbrev wc_X11_product : List Cond := .code yX11_product cX11_product 5 (some .int) :: wT
theorem cdd_X11_product : yX11_product.cls = RX11 ∧ yX11_product.cls ≠ "java/lang/invoke/MethodHandle" ∧ yX11_product.cls ≠ "java/lang/invoke/VarHandle" ∧ (parseMethodDescriptor yX11_product.desc).map (fun d => d.parameters.length) = some 2 := by decide +kernel
set_option maxHeartbeats 4000000 in
set_option maxRecDepth 100000 in
theorem kc_X11_product (l : Launch) (D : va_G) (q : Nat → ClassId) (vl u : Nat → Nat) (hU0 : tw_inj (cX vl) u) (hlt : l.stackTraces = false) (sa : Nat → Nat) (K : Nat) (r0 : Nat) (x1 : Int32) (x2 : Int32) (hr0 : cw_X11 r0) (z z1 : ow_MS) (k9 : Nat) (r : Int32) (hq : ce_X11_product vl K r0 x1 x2 z = some (k9, r, z1)) : vx_Met l yX11_product wc_X11_product ({ frames := 7, cells := 4, slots := 24, locals := 111 } : Room) (va_Pc [.ref (u r0), .int x1, .int x2] (cw_preT D q vl u sa z)) (va_Qi (fun x (_ : Unit) => k9 = 0 ∧ x = r) (fun _ t => va_P D vwCl (uw (cX vl) q u z1) t.heap) (tw_A (cX vl) u)) (ct_X D q vl u k9 z1) 4 24 (tw_A (cX vl) u) := by
  refine vx_ofW (cc := cX11_product) (maxL := 5) (ret := (some .int)) (by decide) rfl ?_
  intro p e s m args below meth c s₁ B hml hex hv
  obtain ⟨rfl, hP, hK, hTh⟩ := hv
  have hx := B.exec
  have hb := B.bytes
  have hr := B.returns
  have hts := atoms_spec (ws := wc_X11_product) B.pre
  have hT : ∀ w ∈ wC, w.before ([.ref (u r0), .int x1, .int x2] : List Value).toArray s = true := fun w h => hts w (List.mem_cons_of_mem _ (wT_C w h))
  have hown : s.vm.findClass RX11 = some m.cls := findClass_of_methodNamed B.named
  have hlocks := B.notSynchronized
  have hU : uw_inj (cX vl) u (tw_A (cX vl) u) := ⟨hU0, fun h hh => ⟨h, hh, rfl⟩⟩
  have hM : uw_M D vwCl (cX vl) q (tw_A (cX vl) u) s.heap u z s.heap [] := ⟨hP, va_S.rf⟩
  have hl := lv_entry ([.ref (u r0), .int x1, .int x2]) (n := 5) (Nat.le_of_ble_eq_true rfl)
  rw [lg_entry_eq]
  generalize (lg_sl ([.ref (u r0), .int x1, .int x2]) ++ List.replicate (5 - (lg_sl ([.ref (u r0), .int x1, .int x2])).length) Slot.unset).toArray = ls at hl ⊢
  have hl : lv_has ls 5 [(0, .ref (u r0)), (1, .int x1), (2, .int x2)] := hl
  refine ow_named (fun QQ hQQ => ?_)
  generalize ([.ref (u r0), .int x1, .int x2] : List Value).toArray = args at hts hT hQQ ⊢
  have hq : cm_X11_product_0 vl K x1 x2 r0 z = some (k9, r, z1) := hq
  unfold cm_X11_product_0 at hq
  suffices key : ∀ (H : Heap) (locs : List Loc), uw_M D vwCl (cX vl) q (tw_A (cX vl) u) s.heap u z H locs → W p l e ({ frames := 7, cells := 4, slots := 24, locals := 111 } : Room) s m args below meth c H locs 0 0 QQ (F0 m 0 ls []) from key s.heap [] hM
  intro H locs hM
  refine lv_aload_n hx hb dcX11_product_0 rfl (lv_at hl 0 rfl) ?_
  refine lv_iload_n hx hb dcX11_product_1 rfl (lv_at hl 1 rfl) ?_
  obtain ⟨k2, z1, hcq, hq⟩ := ct_tc0 hq
  refine ct_calv hU hM (vx_runV (As := [.int x1]) (rest := []) ⟨hx, hb, hml, hown, hts⟩ (kc_X11_needBraid l D q vl u hU.1 hlt sa K r0 x1 hr0 z z1 k2 hcq) (cwV 1 hts (tw_gV2 wT_good (fun _ h => h) (wT_C _ xq_946) (wT_C _ xq_947) (wT_C _ xq_948) (wT_C _ xq_773) (wT_C _ xq_811)) rfl rfl rfl cdd_X11_needBraid ⟨(Nat.le_of_ble_eq_true rfl), (Nat.le_of_ble_eq_true rfl)⟩) (ct_preV hK hTh hM (co_X11 hr0) rfl) rfl rfl hl.1 rfl (lv_room (Nat.le_of_ble_eq_true rfl)) dcX11_product_2 ⟨(Nat.le_of_ble_eq_true rfl), (Nat.le_of_ble_eq_true rfl)⟩) (fun E ce q9 H locs hk hE hM hce hcv hcl => ?_) (fun H locs hk hM => ?_)
  · have hq := tw_if hq hk
    obtain ⟨rfl, h9⟩ := Prod.mk.inj (Option.some.inj hq)
    obtain ⟨rfl, rfl⟩ := Prod.mk.inj h9
    exact ct_out hex hlocks hk hE hM hce hcv hcl hQQ (Nat.le_of_ble_eq_true rfl) (Nat.le_of_ble_eq_true rfl)
  have hq := tw_it hq hk
  refine lv_aload_n hx hb dcX11_product_5 rfl (lv_at hl 0 rfl) ?_
  refine lv_iload_n hx hb dcX11_product_6 rfl (lv_at hl 2 rfl) ?_
  obtain ⟨k4, z3, hcq, hq⟩ := ct_tc0 hq
  refine ct_calv hU hM (vx_runV (As := [.int x2]) (rest := []) ⟨hx, hb, hml, hown, hts⟩ (kc_X11_needBraid l D q vl u hU.1 hlt sa K r0 x2 hr0 z1 z3 k4 hcq) (cwV 1 hts (tw_gV2 wT_good (fun _ h => h) (wT_C _ xq_946) (wT_C _ xq_947) (wT_C _ xq_948) (wT_C _ xq_773) (wT_C _ xq_811)) rfl rfl rfl cdd_X11_needBraid ⟨(Nat.le_of_ble_eq_true rfl), (Nat.le_of_ble_eq_true rfl)⟩) (ct_preV hK hTh hM (co_X11 hr0) rfl) rfl rfl hl.1 rfl (lv_room (Nat.le_of_ble_eq_true rfl)) dcX11_product_7 ⟨(Nat.le_of_ble_eq_true rfl), (Nat.le_of_ble_eq_true rfl)⟩) (fun E ce q9 H locs hk hE hM hce hcv hcl => ?_) (fun H locs hk hM => ?_)
  · have hq := tw_if hq hk
    obtain ⟨rfl, h9⟩ := Prod.mk.inj (Option.some.inj hq)
    obtain ⟨rfl, rfl⟩ := Prod.mk.inj h9
    exact ct_out hex hlocks hk hE hM hce hcv hcl hQQ (Nat.le_of_ble_eq_true rfl) (Nat.le_of_ble_eq_true rfl)
  have hq := tw_it hq hk
  refine lv_aload_n hx hb dcX11_product_10 rfl (lv_at hl 0 rfl) ?_
  refine vgX11_91 hx hb hT hown hK hM hr0 dcX11_product_11 ?_
  refine lv_iload_n hx hb dcX11_product_14 rfl (lv_at hl 1 rfl) ?_
  refine uw_iald cX_ok hx hb hK hM (cr_X11_14 hr0) hq dcX11_product_15 (fun v5 hq => ?_)
  refine lv_aload_n hx hb dcX11_product_16 rfl (lv_at hl 0 rfl) ?_
  refine vgX11_91 hx hb hT hown hK hM hr0 dcX11_product_17 ?_
  refine lv_iload_n hx hb dcX11_product_20 rfl (lv_at hl 2 rfl) ?_
  refine uw_iald cX_ok hx hb hK hM (cr_X11_14 hr0) hq dcX11_product_21 (fun v6 hq => ?_)
  refine lv_icmp_eq (tgt := 36) hx hb dcX11_product_22 (by decide) (fun hc => ?_) (fun hc => ?_)
  · have hq := tw_it hq hc
    refine lv_aload_n hx hb dcX11_product_36 rfl (lv_at hl 0 rfl) ?_
    refine vgX11_87 hx hb hT hown hK hM hr0 dcX11_product_37 ?_
    refine lv_iload_n hx hb dcX11_product_40 rfl (lv_at hl 1 rfl) ?_
    refine uw_iald cX_ok hx hb hK hM (cr_X11_13 hr0) hq dcX11_product_41 (fun v7 hq => ?_)
    refine lv_aload_n hx hb dcX11_product_42 rfl (lv_at hl 0 rfl) ?_
    refine vgX11_87 hx hb hT hown hK hM hr0 dcX11_product_43 ?_
    refine lv_iload_n hx hb dcX11_product_46 rfl (lv_at hl 2 rfl) ?_
    refine uw_iald cX_ok hx hb hK hM (cr_X11_13 hr0) hq dcX11_product_47 (fun v8 hq => ?_)
    refine lv_iadd hx hb dcX11_product_48 ?_
    refine lv_bipush (v := 16) hx hb dcX11_product_49 (by decide) ?_
    refine lv_icmp_le (tgt := 65) hx hb dcX11_product_51 (by decide) (fun hc => ?_) (fun hc => ?_)
    · have hq := tw_it hq hc
      refine lv_aload_n hx hb dcX11_product_65 rfl (lv_at hl 0 rfl) ?_
      obtain ⟨k10, v11, z9, hcq, hq⟩ := ct_tc1 hq
      refine ct_cali hU hM (vx_runV (As := []) (rest := []) ⟨hx, hb, hml, hown, hts⟩ (kc_X11_freeBraid l D q vl u hU.1 hlt sa K r0 hr0 z3 z9 k10 v11 hcq) (cwV 0 hts (tw_gV2 wT_good (fun _ h => h) (wT_C _ xq_793) (wT_C _ xq_794) (wT_C _ xq_795) (wT_C _ xq_773) (wT_C _ xq_796)) rfl rfl rfl cdd_X11_freeBraid ⟨(Nat.le_of_ble_eq_true rfl), (Nat.le_of_ble_eq_true rfl)⟩) (ct_preV hK hTh hM (co_X11 hr0) rfl) rfl rfl hl.1 rfl (lv_room (Nat.le_of_ble_eq_true rfl)) dcX11_product_66 ⟨(Nat.le_of_ble_eq_true rfl), (Nat.le_of_ble_eq_true rfl)⟩) (fun E ce q9 H locs hk hE hM hce hcv hcl => ?_) (fun H locs hk hM => ?_)
      · have hq := tw_if hq hk
        obtain ⟨rfl, h9⟩ := Prod.mk.inj (Option.some.inj hq)
        obtain ⟨rfl, rfl⟩ := Prod.mk.inj h9
        exact ct_out hex hlocks hk hE hM hce hcv hcl hQQ (Nat.le_of_ble_eq_true rfl) (Nat.le_of_ble_eq_true rfl)
      have hq := tw_it hq hk
      refine lv_istore_n (lv' := [(3, .int v11), (0, .ref (u r0)), (1, .int x1), (2, .int x2)]) hx hb dcX11_product_69 rfl hl (by decide) rfl (fun ls hl => ?_)
      refine lv_iload_n hx hb dcX11_product_70 rfl (lv_at hl 0 rfl) ?_
      refine lv_bipush (v := 16) hx hb dcX11_product_71 (by decide) ?_
      refine lv_imul hx hb dcX11_product_73 ?_
      refine lv_istore (lv' := [(4, .int (v11 * 16)), (3, .int v11), (0, .ref (u r0)), (1, .int x1), (2, .int x2)]) hx hb dcX11_product_74 hl (by decide) rfl (fun ls hl => ?_)
      refine lv_aload_n hx hb dcX11_product_76 rfl (lv_at hl 2 rfl) ?_
      refine vgX11_83 hx hb hT hown hK hM hr0 dcX11_product_77 ?_
      refine lv_iload_n hx hb dcX11_product_80 rfl (lv_at hl 3 rfl) ?_
      refine lv_bipush (v := 16) hx hb dcX11_product_81 (by decide) ?_
      refine lv_imul hx hb dcX11_product_83 ?_
      refine lv_aload_n hx hb dcX11_product_84 rfl (lv_at hl 2 rfl) ?_
      refine vgX11_83 hx hb hT hown hK hM hr0 dcX11_product_85 ?_
      refine lv_iload hx hb dcX11_product_88 (lv_at hl 0 rfl) ?_
      refine lv_aload_n hx hb dcX11_product_90 rfl (lv_at hl 2 rfl) ?_
      refine vgX11_87 hx hb hT hown hK hM hr0 dcX11_product_91 ?_
      refine lv_iload_n hx hb dcX11_product_94 rfl (lv_at hl 3 rfl) ?_
      refine uw_iald cX_ok hx hb hK hM (cr_X11_13 hr0) hq dcX11_product_95 (fun v12 hq => ?_)
      refine uw_cpB cX_ok hU hx hb (by rw [hml]; exact hl.1.symm) hown (hT _ xq_953) (hT _ xq_130) (hT _ xq_131) (hT _ xq_132) hK hM (cr_X11_12 hr0) (cr_X11_12 hr0) hq (Nat.le_of_ble_eq_true rfl) (by decide) dcX11_product_96 (fun z13 H locs hM hq => ?_)
      refine lv_aload_n hx hb dcX11_product_99 rfl (lv_at hl 2 rfl) ?_
      refine vgX11_83 hx hb hT hown hK hM hr0 dcX11_product_100 ?_
      refine lv_iload_n hx hb dcX11_product_103 rfl (lv_at hl 4 rfl) ?_
      refine lv_bipush (v := 16) hx hb dcX11_product_104 (by decide) ?_
      refine lv_imul hx hb dcX11_product_106 ?_
      refine lv_aload_n hx hb dcX11_product_107 rfl (lv_at hl 2 rfl) ?_
      refine vgX11_83 hx hb hT hown hK hM hr0 dcX11_product_108 ?_
      refine lv_iload hx hb dcX11_product_111 (lv_at hl 0 rfl) ?_
      refine lv_aload_n hx hb dcX11_product_113 rfl (lv_at hl 2 rfl) ?_
      refine vgX11_87 hx hb hT hown hK hM hr0 dcX11_product_114 ?_
      refine lv_iload_n hx hb dcX11_product_117 rfl (lv_at hl 3 rfl) ?_
      refine uw_iald cX_ok hx hb hK hM (cr_X11_13 hr0) hq dcX11_product_118 (fun v14 hq => ?_)
      refine lv_iadd hx hb dcX11_product_119 ?_
      refine lv_aload_n hx hb dcX11_product_120 rfl (lv_at hl 2 rfl) ?_
      refine vgX11_87 hx hb hT hown hK hM hr0 dcX11_product_121 ?_
      refine lv_iload_n hx hb dcX11_product_124 rfl (lv_at hl 4 rfl) ?_
      refine uw_iald cX_ok hx hb hK hM (cr_X11_13 hr0) hq dcX11_product_125 (fun v15 hq => ?_)
      refine uw_cpB cX_ok hU hx hb (by rw [hml]; exact hl.1.symm) hown (hT _ xq_953) (hT _ xq_130) (hT _ xq_131) (hT _ xq_132) hK hM (cr_X11_12 hr0) (cr_X11_12 hr0) hq (Nat.le_of_ble_eq_true rfl) (by decide) dcX11_product_126 (fun z16 H locs hM hq => ?_)
      refine lv_aload_n hx hb dcX11_product_129 rfl (lv_at hl 2 rfl) ?_
      refine vgX11_87 hx hb hT hown hK hM hr0 dcX11_product_130 ?_
      refine lv_iload_n hx hb dcX11_product_133 rfl (lv_at hl 1 rfl) ?_
      refine lv_aload_n hx hb dcX11_product_134 rfl (lv_at hl 2 rfl) ?_
      refine vgX11_87 hx hb hT hown hK hM hr0 dcX11_product_135 ?_
      refine lv_iload_n hx hb dcX11_product_138 rfl (lv_at hl 3 rfl) ?_
      refine uw_iald cX_ok hx hb hK hM (cr_X11_13 hr0) hq dcX11_product_139 (fun v17 hq => ?_)
      refine lv_aload_n hx hb dcX11_product_140 rfl (lv_at hl 2 rfl) ?_
      refine vgX11_87 hx hb hT hown hK hM hr0 dcX11_product_141 ?_
      refine lv_iload_n hx hb dcX11_product_144 rfl (lv_at hl 4 rfl) ?_
      refine uw_iald cX_ok hx hb hK hM (cr_X11_13 hr0) hq dcX11_product_145 (fun v18 hq => ?_)
      refine lv_iadd hx hb dcX11_product_146 ?_
      refine uw_iast cX_ok hU hx hb hK hM (cr_X11_13 hr0) hq dcX11_product_147 (fun z19 H locs hM hq => ?_)
      refine lv_aload_n hx hb dcX11_product_148 rfl (lv_at hl 2 rfl) ?_
      refine vgX11_91 hx hb hT hown hK hM hr0 dcX11_product_149 ?_
      refine lv_iload_n hx hb dcX11_product_152 rfl (lv_at hl 1 rfl) ?_
      refine lv_aload_n hx hb dcX11_product_153 rfl (lv_at hl 2 rfl) ?_
      refine vgX11_91 hx hb hT hown hK hM hr0 dcX11_product_154 ?_
      refine lv_iload_n hx hb dcX11_product_157 rfl (lv_at hl 3 rfl) ?_
      refine uw_iald cX_ok hx hb hK hM (cr_X11_14 hr0) hq dcX11_product_158 (fun v20 hq => ?_)
      refine uw_iast cX_ok hU hx hb hK hM (cr_X11_14 hr0) hq dcX11_product_159 (fun z21 H locs hM hq => ?_)
      refine lv_iload_n hx hb dcX11_product_160 rfl (lv_at hl 1 rfl) ?_
      exact ct_iret hx hb hr hlocks hM hq hQQ (Nat.le_of_ble_eq_true rfl) (Nat.le_of_ble_eq_true rfl) dcX11_product_161
    · have hq := tw_if hq hc
      obtain ⟨rfl, h9⟩ := Prod.mk.inj (Option.some.inj hq)
      obtain ⟨rfl, rfl⟩ := Prod.mk.inj h9
      exact ct_throwW (k := 4) (text := "more than 16 letters") (cls := "java/lang/UnsupportedOperationException") hx hb hlt hown hex hlocks (by rw [hml]; exact hl.1.symm) hTh (List.mem_of_getElem? (i := 25) rfl) rfl (by decide) (by decide +kernel) (hts _ (List.mem_cons_of_mem _ wT_k4)) (hts _ (List.mem_cons_of_mem _ wT_i4)) (fun w h => hts w (List.mem_cons_of_mem _ (wT_4 w h))) th9_4 tg9_4 hM dcX11_product_54 dcX11_product_57 dcX11_product_58 dcX11_product_61 dcX11_product_64 hQQ (Nat.le_of_ble_eq_true rfl) (Nat.le_of_ble_eq_true rfl) (Nat.le_of_ble_eq_true rfl) (Nat.le_of_ble_eq_true rfl) (Nat.le_of_ble_eq_true rfl) (Nat.le_of_ble_eq_true rfl)
  · have hq := tw_if hq hc
    obtain ⟨rfl, h9⟩ := Prod.mk.inj (Option.some.inj hq)
    obtain ⟨rfl, rfl⟩ := Prod.mk.inj h9
    exact ct_throwW (k := 2) (text := "as many strands are needed") (cls := "java/lang/IllegalArgumentException") hx hb hlt hown hex hlocks (by rw [hml]; exact hl.1.symm) hTh (List.mem_of_getElem? (i := 24) rfl) rfl (by decide) (by decide +kernel) (hts _ (List.mem_cons_of_mem _ wT_k2)) (hts _ (List.mem_cons_of_mem _ wT_i2)) (fun w h => hts w (List.mem_cons_of_mem _ (wT_2 w h))) th9_2 tg9_2 hM dcX11_product_25 dcX11_product_28 dcX11_product_29 dcX11_product_32 dcX11_product_35 hQQ (Nat.le_of_ble_eq_true rfl) (Nat.le_of_ble_eq_true rfl) (Nat.le_of_ble_eq_true rfl) (Nat.le_of_ble_eq_true rfl) (Nat.le_of_ble_eq_true rfl) (Nat.le_of_ble_eq_true rfl)
theorem dcX11_inverse_0 : decode cX11_inverse 0 = .ok (.aload_n 0, 1) := dw_at cX11_inverse_k0 (p := 0) rfl (by decide +kernel)
theorem dcX11_inverse_1 : decode cX11_inverse 1 = .ok (.iload_n 1, 1) := dw_at cX11_inverse_k0 (p := 1) rfl (by decide +kernel)
theorem dcX11_inverse_2 : decode cX11_inverse 2 = .ok (.invokevirtual 379, 3) := dw_at cX11_inverse_k0 (p := 2) rfl (by decide +kernel)
theorem dcX11_inverse_5 : decode cX11_inverse 5 = .ok (.aload_n 0, 1) := dw_at cX11_inverse_k0 (p := 5) rfl (by decide +kernel)
theorem dcX11_inverse_6 : decode cX11_inverse 6 = .ok (.invokevirtual 151, 3) := dw_at cX11_inverse_k0 (p := 6) rfl (by decide +kernel)
theorem dcX11_inverse_9 : decode cX11_inverse 9 = .ok (.istore_n 2, 1) := dw_at cX11_inverse_k0 (p := 9) rfl (by decide +kernel)
theorem dcX11_inverse_10 : decode cX11_inverse 10 = .ok (.aload_n 0, 1) := dw_at cX11_inverse_k0 (p := 10) rfl (by decide +kernel)
theorem dcX11_inverse_11 : decode cX11_inverse 11 = .ok (.getfield 87, 3) := dw_at cX11_inverse_k0 (p := 11) rfl (by decide +kernel)
theorem dcX11_inverse_14 : decode cX11_inverse 14 = .ok (.iload_n 1, 1) := dw_at cX11_inverse_k0 (p := 14) rfl (by decide +kernel)
theorem dcX11_inverse_15 : decode cX11_inverse 15 = .ok (.iaload, 1) := dw_at cX11_inverse_k0 (p := 15) rfl (by decide +kernel)
theorem dcX11_inverse_16 : decode cX11_inverse 16 = .ok (.istore_n 3, 1) := dw_at cX11_inverse_k0 (p := 16) rfl (by decide +kernel)
theorem dcX11_inverse_17 : decode cX11_inverse 17 = .ok (.iconst 0, 1) := dw_at cX11_inverse_k0 (p := 17) rfl (by decide +kernel)
theorem dcX11_inverse_18 : decode cX11_inverse 18 = .ok (.istore 4, 2) := dw_at cX11_inverse_k0 (p := 18) rfl (by decide +kernel)
theorem dcX11_inverse_20 : decode cX11_inverse 20 = .ok (.iload 4, 2) := dw_at cX11_inverse_k0 (p := 20) rfl (by decide +kernel)
theorem dcX11_inverse_22 : decode cX11_inverse 22 = .ok (.iload_n 3, 1) := dw_at cX11_inverse_k0 (p := 22) rfl (by decide +kernel)
theorem dcX11_inverse_23 : decode cX11_inverse 23 = .ok (.if_icmp .ge 39, 3) := dw_at cX11_inverse_k0 (p := 23) rfl (by decide +kernel)
theorem dcX11_inverse_26 : decode cX11_inverse 26 = .ok (.aload_n 0, 1) := dw_at cX11_inverse_k1 (p := 0) rfl (by decide +kernel)
theorem dcX11_inverse_27 : decode cX11_inverse 27 = .ok (.getfield 83, 3) := dw_at cX11_inverse_k1 (p := 1) rfl (by decide +kernel)
theorem dcX11_inverse_30 : decode cX11_inverse 30 = .ok (.iload_n 2, 1) := dw_at cX11_inverse_k1 (p := 4) rfl (by decide +kernel)
theorem dcX11_inverse_31 : decode cX11_inverse 31 = .ok (.bipush 16, 2) := dw_at cX11_inverse_k1 (p := 5) rfl (by decide +kernel)
theorem dcX11_inverse_33 : decode cX11_inverse 33 = .ok (.imul, 1) := dw_at cX11_inverse_k1 (p := 7) rfl (by decide +kernel)
theorem dcX11_inverse_34 : decode cX11_inverse 34 = .ok (.iload 4, 2) := dw_at cX11_inverse_k1 (p := 8) rfl (by decide +kernel)
theorem dcX11_inverse_36 : decode cX11_inverse 36 = .ok (.iadd, 1) := dw_at cX11_inverse_k1 (p := 10) rfl (by decide +kernel)
theorem dcX11_inverse_37 : decode cX11_inverse 37 = .ok (.aload_n 0, 1) := dw_at cX11_inverse_k1 (p := 11) rfl (by decide +kernel)
theorem dcX11_inverse_38 : decode cX11_inverse 38 = .ok (.getfield 83, 3) := dw_at cX11_inverse_k1 (p := 12) rfl (by decide +kernel)
theorem dcX11_inverse_41 : decode cX11_inverse 41 = .ok (.iload_n 1, 1) := dw_at cX11_inverse_k1 (p := 15) rfl (by decide +kernel)
theorem dcX11_inverse_42 : decode cX11_inverse 42 = .ok (.bipush 16, 2) := dw_at cX11_inverse_k1 (p := 16) rfl (by decide +kernel)
theorem dcX11_inverse_44 : decode cX11_inverse 44 = .ok (.imul, 1) := dw_at cX11_inverse_k1 (p := 18) rfl (by decide +kernel)
theorem dcX11_inverse_45 : decode cX11_inverse 45 = .ok (.iload_n 3, 1) := dw_at cX11_inverse_k1 (p := 19) rfl (by decide +kernel)
theorem dcX11_inverse_46 : decode cX11_inverse 46 = .ok (.iadd, 1) := dw_at cX11_inverse_k1 (p := 20) rfl (by decide +kernel)
theorem dcX11_inverse_47 : decode cX11_inverse 47 = .ok (.iconst 1, 1) := dw_at cX11_inverse_k1 (p := 21) rfl (by decide +kernel)
theorem dcX11_inverse_48 : decode cX11_inverse 48 = .ok (.isub, 1) := dw_at cX11_inverse_k1 (p := 22) rfl (by decide +kernel)
theorem dcX11_inverse_49 : decode cX11_inverse 49 = .ok (.iload 4, 2) := dw_at cX11_inverse_k1 (p := 23) rfl (by decide +kernel)
theorem dcX11_inverse_51 : decode cX11_inverse 51 = .ok (.isub, 1) := dw_at cX11_inverse_k2 (p := 0) rfl (by decide +kernel)
theorem dcX11_inverse_52 : decode cX11_inverse 52 = .ok (.baload, 1) := dw_at cX11_inverse_k2 (p := 1) rfl (by decide +kernel)
theorem dcX11_inverse_53 : decode cX11_inverse 53 = .ok (.ineg, 1) := dw_at cX11_inverse_k2 (p := 2) rfl (by decide +kernel)
theorem dcX11_inverse_54 : decode cX11_inverse 54 = .ok (.i2b, 1) := dw_at cX11_inverse_k2 (p := 3) rfl (by decide +kernel)
theorem dcX11_inverse_55 : decode cX11_inverse 55 = .ok (.bastore, 1) := dw_at cX11_inverse_k2 (p := 4) rfl (by decide +kernel)
theorem dcX11_inverse_56 : decode cX11_inverse 56 = .ok (.iinc 4 1, 3) := dw_at cX11_inverse_k2 (p := 5) rfl (by decide +kernel)
theorem dcX11_inverse_59 : decode cX11_inverse 59 = .ok (.goto (-39), 3) := dw_at cX11_inverse_k2 (p := 8) rfl (by decide +kernel)
theorem dcX11_inverse_62 : decode cX11_inverse 62 = .ok (.aload_n 0, 1) := dw_at cX11_inverse_k2 (p := 11) rfl (by decide +kernel)
theorem dcX11_inverse_63 : decode cX11_inverse 63 = .ok (.getfield 87, 3) := dw_at cX11_inverse_k2 (p := 12) rfl (by decide +kernel)
theorem dcX11_inverse_66 : decode cX11_inverse 66 = .ok (.iload_n 2, 1) := dw_at cX11_inverse_k2 (p := 15) rfl (by decide +kernel)
theorem dcX11_inverse_67 : decode cX11_inverse 67 = .ok (.iload_n 3, 1) := dw_at cX11_inverse_k2 (p := 16) rfl (by decide +kernel)
theorem dcX11_inverse_68 : decode cX11_inverse 68 = .ok (.iastore, 1) := dw_at cX11_inverse_k2 (p := 17) rfl (by decide +kernel)
theorem dcX11_inverse_69 : decode cX11_inverse 69 = .ok (.aload_n 0, 1) := dw_at cX11_inverse_k2 (p := 18) rfl (by decide +kernel)
theorem dcX11_inverse_70 : decode cX11_inverse 70 = .ok (.getfield 91, 3) := dw_at cX11_inverse_k2 (p := 19) rfl (by decide +kernel)
theorem dcX11_inverse_73 : decode cX11_inverse 73 = .ok (.iload_n 2, 1) := dw_at cX11_inverse_k2 (p := 22) rfl (by decide +kernel)
theorem dcX11_inverse_74 : decode cX11_inverse 74 = .ok (.aload_n 0, 1) := dw_at cX11_inverse_k2 (p := 23) rfl (by decide +kernel)
theorem dcX11_inverse_75 : decode cX11_inverse 75 = .ok (.getfield 91, 3) := dw_at cX11_inverse_k3 (p := 0) rfl (by decide +kernel)
theorem dcX11_inverse_78 : decode cX11_inverse 78 = .ok (.iload_n 1, 1) := dw_at cX11_inverse_k3 (p := 3) rfl (by decide +kernel)
theorem dcX11_inverse_79 : decode cX11_inverse 79 = .ok (.iaload, 1) := dw_at cX11_inverse_k3 (p := 4) rfl (by decide +kernel)
theorem dcX11_inverse_80 : decode cX11_inverse 80 = .ok (.iastore, 1) := dw_at cX11_inverse_k3 (p := 5) rfl (by decide +kernel)
theorem dcX11_inverse_81 : decode cX11_inverse 81 = .ok (.iload_n 2, 1) := dw_at cX11_inverse_k3 (p := 6) rfl (by decide +kernel)
theorem dcX11_inverse_82 : decode cX11_inverse 82 = .ok (.ireturn, 1) := dw_at cX11_inverse_k3 (p := 7) rfl (by decide +kernel)
def cm_X11_inverse_0 (vl : Nat → Nat) (K : Nat) (go : Nat → Int32 → Int32 → Int32 → Int32 → Nat → ow_MS → Option (Nat × Int32 × ow_MS)) (x1 : Int32) (x2 : Int32) (x3 : Int32) (x4 : Int32) (r0 : Nat) (z : ow_MS) : Option (Nat × Int32 × ow_MS) :=
 tc0 (ce_X11_needBraid vl K r0 x1 z) (fun k z => some (k, 0, z)) fun z1 => tc1 (ce_X11_freeBraid vl K r0 z1) (fun k z => some (k, 0, z)) fun v5 z3 => crI (cX vl) z3 (r0 + 14) x1 fun v6 => go 1 x1 v5 v6 0 r0 z3
def cm_X11_inverse_1 (vl : Nat → Nat) (K : Nat) (go : Nat → Int32 → Int32 → Int32 → Int32 → Nat → ow_MS → Option (Nat × Int32 × ow_MS)) (x1 : Int32) (x2 : Int32) (x3 : Int32) (x4 : Int32) (r0 : Nat) (z : ow_MS) : Option (Nat × Int32 × ow_MS) :=
 (if x3 ≤ x4 then ctI (cX vl) z (r0 + 14) x2 x3 fun z7 => crI (cX vl) z7 (r0 + 15) x1 fun v8 => ctI (cX vl) z7 (r0 + 15) x2 v8 fun z9 => some (0, x2, z9)
 else crI (cX vl) z (r0 + 13) ((((x1 * 16) + x3) - 1) - x4) fun v10 => ctB (cX vl) z (r0 + 13) ((x2 * 16) + x4) ((-v10).toInt8.toInt32) fun z11 => go 1 x1 x2 x3 (x4 + 1) r0 z11)
def cb_X11_inverse (vl : Nat → Nat) (K : Nat) (go : Nat → Int32 → Int32 → Int32 → Int32 → Nat → ow_MS → Option (Nat × Int32 × ow_MS)) (L : Nat) (x1 : Int32) (x2 : Int32) (x3 : Int32) (x4 : Int32) (r0 : Nat) (z : ow_MS) : Option (Nat × Int32 × ow_MS) := match L with
  | 0 => cm_X11_inverse_0 vl K go x1 x2 x3 x4 r0 z
  | 1 => cm_X11_inverse_1 vl K go x1 x2 x3 x4 r0 z
  | _ => none
def c_X11_inverse (vl : Nat → Nat) (K : Nat) : Nat → Nat → Int32 → Int32 → Int32 → Int32 → Nat → ow_MS → Option (Nat × Int32 × ow_MS)
  | 0 => fun _ _ _ _ _ _ _ => none
  | k + 1 => cb_X11_inverse vl K (c_X11_inverse vl K k)
def ce_X11_inverse (vl : Nat → Nat) (K : Nat) (r0 : Nat) (x1 : Int32) (z : ow_MS) : Option (Nat × Int32 × ow_MS) := c_X11_inverse vl K K 0 x1 0 0 0 r0 z
abbrev wc_X11_inverse : List Cond := .code yX11_inverse cX11_inverse 5 (some .int) :: wT
theorem cdd_X11_inverse : yX11_inverse.cls = RX11 ∧ yX11_inverse.cls ≠ "java/lang/invoke/MethodHandle" ∧ yX11_inverse.cls ≠ "java/lang/invoke/VarHandle" ∧ (parseMethodDescriptor yX11_inverse.desc).map (fun d => d.parameters.length) = some 1 := by decide +kernel
set_option maxHeartbeats 4000000 in
set_option maxRecDepth 100000 in
theorem kc_X11_inverse (l : Launch) (D : va_G) (q : Nat → ClassId) (vl u : Nat → Nat) (hU0 : tw_inj (cX vl) u) (hlt : l.stackTraces = false) (sa : Nat → Nat) (K : Nat) (r0 : Nat) (x1 : Int32) (hr0 : cw_X11 r0) (z z1 : ow_MS) (k9 : Nat) (r : Int32) (hq : ce_X11_inverse vl K r0 x1 z = some (k9, r, z1)) : vx_Met l yX11_inverse wc_X11_inverse ({ frames := 7, cells := 2, slots := 12, locals := 111 } : Room) (va_Pc [.ref (u r0), .int x1] (cw_preT D q vl u sa z)) (va_Qi (fun x (_ : Unit) => k9 = 0 ∧ x = r) (fun _ t => va_P D vwCl (uw (cX vl) q u z1) t.heap) (tw_A (cX vl) u)) (ct_X D q vl u k9 z1) 2 12 (tw_A (cX vl) u) := by
  refine vx_ofW (cc := cX11_inverse) (maxL := 5) (ret := (some .int)) (by decide) rfl ?_
  intro p e s m args below meth c s₁ B hml hex hv
  obtain ⟨rfl, hP, hK, hTh⟩ := hv
  have hx := B.exec
  have hb := B.bytes
  have hr := B.returns
  have hts := atoms_spec (ws := wc_X11_inverse) B.pre
  have hT : ∀ w ∈ wC, w.before ([.ref (u r0), .int x1] : List Value).toArray s = true := fun w h => hts w (List.mem_cons_of_mem _ (wT_C w h))
  have hown : s.vm.findClass RX11 = some m.cls := findClass_of_methodNamed B.named
  have hlocks := B.notSynchronized
  have hU : uw_inj (cX vl) u (tw_A (cX vl) u) := ⟨hU0, fun h hh => ⟨h, hh, rfl⟩⟩
  have hM : uw_M D vwCl (cX vl) q (tw_A (cX vl) u) s.heap u z s.heap [] := ⟨hP, va_S.rf⟩
  have hl := lv_entry ([.ref (u r0), .int x1]) (n := 5) (Nat.le_of_ble_eq_true rfl)
  rw [lg_entry_eq]
  generalize (lg_sl ([.ref (u r0), .int x1]) ++ List.replicate (5 - (lg_sl ([.ref (u r0), .int x1])).length) Slot.unset).toArray = ls at hl ⊢
  have hl : lv_has ls 5 [(0, .ref (u r0)), (1, .int x1)] := hl
  refine ow_named (fun QQ hQQ => ?_)
  generalize ([.ref (u r0), .int x1] : List Value).toArray = args at hts hT hQQ ⊢
  have key : ∀ k : Nat, (∀ (x1 : Int32) (x2 : Int32) (x3 : Int32) (x4 : Int32) (r0 : Nat) (z : ow_MS) (H : Heap) (locs : List Loc) (ls : Array Slot), cw_X11 r0 → uw_M D vwCl (cX vl) q (tw_A (cX vl) u) s.heap u z H locs → lv_has ls 5 [(0, .ref (u r0)), (1, .int x1)] → c_X11_inverse vl K k 0 x1 x2 x3 x4 r0 z = some (k9, r, z1) → W p l e ({ frames := 7, cells := 2, slots := 12, locals := 111 } : Room) s m args below meth c H locs 0 0 QQ (F0 m 0 ls [])) ∧ (∀ (x1 : Int32) (x2 : Int32) (x3 : Int32) (x4 : Int32) (r0 : Nat) (z : ow_MS) (H : Heap) (locs : List Loc) (ls : Array Slot), cw_X11 r0 → uw_M D vwCl (cX vl) q (tw_A (cX vl) u) s.heap u z H locs → lv_has ls 5 [(0, .ref (u r0)), (1, .int x1), (2, .int x2), (3, .int x3), (4, .int x4)] → c_X11_inverse vl K k 1 x1 x2 x3 x4 r0 z = some (k9, r, z1) → W p l e ({ frames := 7, cells := 2, slots := 12, locals := 111 } : Room) s m args below meth c H locs 2 12 QQ (F0 m 20 ls [])) := by
    intro k
    induction k with
    | zero => exact ⟨fun _ _ _ _ _ _ _ _ _ _ _ _ hq => cw_no hq, fun _ _ _ _ _ _ _ _ _ _ _ _ hq => cw_no hq⟩
    | succ k ih =>
      obtain ⟨ih_0, ih_1⟩ := ih
      refine ⟨?_, ?_⟩
      · intro x1 x2 x3 x4 r0 z H locs ls hr0 hM hl hq
        have hq : cm_X11_inverse_0 vl K (c_X11_inverse vl K k) x1 x2 x3 x4 r0 z = some (k9, r, z1) := hq
        unfold cm_X11_inverse_0 at hq
        refine lv_aload_n hx hb dcX11_inverse_0 rfl (lv_at hl 0 rfl) ?_
        refine lv_iload_n hx hb dcX11_inverse_1 rfl (lv_at hl 1 rfl) ?_
        obtain ⟨k2, z1, hcq, hq⟩ := ct_tc0 hq
        refine ct_calv hU hM (vx_runV (As := [.int x1]) (rest := []) ⟨hx, hb, hml, hown, hts⟩ (kc_X11_needBraid l D q vl u hU.1 hlt sa K r0 x1 hr0 z z1 k2 hcq) (cwV 1 hts (tw_gV2 wT_good (fun _ h => h) (wT_C _ xq_946) (wT_C _ xq_947) (wT_C _ xq_948) (wT_C _ xq_773) (wT_C _ xq_811)) rfl rfl rfl cdd_X11_needBraid ⟨(Nat.le_of_ble_eq_true rfl), (Nat.le_of_ble_eq_true rfl)⟩) (ct_preV hK hTh hM (co_X11 hr0) rfl) rfl rfl hl.1 rfl (lv_room (Nat.le_of_ble_eq_true rfl)) dcX11_inverse_2 ⟨(Nat.le_of_ble_eq_true rfl), (Nat.le_of_ble_eq_true rfl)⟩) (fun E ce q9 H locs hk hE hM hce hcv hcl => ?_) (fun H locs hk hM => ?_)
        · have hq := tw_if hq hk
          obtain ⟨rfl, h9⟩ := Prod.mk.inj (Option.some.inj hq)
          obtain ⟨rfl, rfl⟩ := Prod.mk.inj h9
          exact ct_out hex hlocks hk hE hM hce hcv hcl hQQ (Nat.le_of_ble_eq_true rfl) (Nat.le_of_ble_eq_true rfl)
        have hq := tw_it hq hk
        refine lv_aload_n hx hb dcX11_inverse_5 rfl (lv_at hl 0 rfl) ?_
        obtain ⟨k4, v5, z3, hcq, hq⟩ := ct_tc1 hq
        refine ct_cali hU hM (vx_runV (As := []) (rest := []) ⟨hx, hb, hml, hown, hts⟩ (kc_X11_freeBraid l D q vl u hU.1 hlt sa K r0 hr0 z1 z3 k4 v5 hcq) (cwV 0 hts (tw_gV2 wT_good (fun _ h => h) (wT_C _ xq_793) (wT_C _ xq_794) (wT_C _ xq_795) (wT_C _ xq_773) (wT_C _ xq_796)) rfl rfl rfl cdd_X11_freeBraid ⟨(Nat.le_of_ble_eq_true rfl), (Nat.le_of_ble_eq_true rfl)⟩) (ct_preV hK hTh hM (co_X11 hr0) rfl) rfl rfl hl.1 rfl (lv_room (Nat.le_of_ble_eq_true rfl)) dcX11_inverse_6 ⟨(Nat.le_of_ble_eq_true rfl), (Nat.le_of_ble_eq_true rfl)⟩) (fun E ce q9 H locs hk hE hM hce hcv hcl => ?_) (fun H locs hk hM => ?_)
        · have hq := tw_if hq hk
          obtain ⟨rfl, h9⟩ := Prod.mk.inj (Option.some.inj hq)
          obtain ⟨rfl, rfl⟩ := Prod.mk.inj h9
          exact ct_out hex hlocks hk hE hM hce hcv hcl hQQ (Nat.le_of_ble_eq_true rfl) (Nat.le_of_ble_eq_true rfl)
        have hq := tw_it hq hk
        refine lv_istore_n (lv' := [(2, .int v5), (0, .ref (u r0)), (1, .int x1)]) hx hb dcX11_inverse_9 rfl hl (by decide) rfl (fun ls hl => ?_)
        refine lv_aload_n hx hb dcX11_inverse_10 rfl (lv_at hl 1 rfl) ?_
        refine vgX11_87 hx hb hT hown hK hM hr0 dcX11_inverse_11 ?_
        refine lv_iload_n hx hb dcX11_inverse_14 rfl (lv_at hl 2 rfl) ?_
        refine uw_iald cX_ok hx hb hK hM (cr_X11_13 hr0) hq dcX11_inverse_15 (fun v6 hq => ?_)
        refine lv_istore_n (lv' := [(3, .int v6), (2, .int v5), (0, .ref (u r0)), (1, .int x1)]) hx hb dcX11_inverse_16 rfl hl (by decide) rfl (fun ls hl => ?_)
        refine lv_iconst (v := 0) hx hb dcX11_inverse_17 (by decide) ?_
        refine lv_istore (lv' := [(4, .int 0), (3, .int v6), (2, .int v5), (0, .ref (u r0)), (1, .int x1)]) hx hb dcX11_inverse_18 hl (by decide) rfl (fun ls hl => ?_)
        refine W.widen (k := 2) (n := 12) (Nat.le_of_ble_eq_true rfl) (Nat.le_of_ble_eq_true rfl) ?_
        exact ih_1 x1 v5 v6 0 r0 z3 H locs ls hr0 hM (lv_sub hl [3, 4, 2, 1, 0] rfl) hq
      · intro x1 x2 x3 x4 r0 z H locs ls hr0 hM hl hq
        have hq : cm_X11_inverse_1 vl K (c_X11_inverse vl K k) x1 x2 x3 x4 r0 z = some (k9, r, z1) := hq
        unfold cm_X11_inverse_1 at hq
        refine lv_iload hx hb dcX11_inverse_20 (lv_at hl 4 rfl) ?_
        refine lv_iload_n hx hb dcX11_inverse_22 rfl (lv_at hl 3 rfl) ?_
        refine lv_icmp_ge (tgt := 62) hx hb dcX11_inverse_23 (by decide) (fun hc => ?_) (fun hc => ?_)
        · have hq := tw_it hq hc
          refine lv_aload_n hx hb dcX11_inverse_62 rfl (lv_at hl 0 rfl) ?_
          refine vgX11_87 hx hb hT hown hK hM hr0 dcX11_inverse_63 ?_
          refine lv_iload_n hx hb dcX11_inverse_66 rfl (lv_at hl 2 rfl) ?_
          refine lv_iload_n hx hb dcX11_inverse_67 rfl (lv_at hl 3 rfl) ?_
          refine uw_iast cX_ok hU hx hb hK hM (cr_X11_13 hr0) hq dcX11_inverse_68 (fun z7 H locs hM hq => ?_)
          refine lv_aload_n hx hb dcX11_inverse_69 rfl (lv_at hl 0 rfl) ?_
          refine vgX11_91 hx hb hT hown hK hM hr0 dcX11_inverse_70 ?_
          refine lv_iload_n hx hb dcX11_inverse_73 rfl (lv_at hl 2 rfl) ?_
          refine lv_aload_n hx hb dcX11_inverse_74 rfl (lv_at hl 0 rfl) ?_
          refine vgX11_91 hx hb hT hown hK hM hr0 dcX11_inverse_75 ?_
          refine lv_iload_n hx hb dcX11_inverse_78 rfl (lv_at hl 1 rfl) ?_
          refine uw_iald cX_ok hx hb hK hM (cr_X11_14 hr0) hq dcX11_inverse_79 (fun v8 hq => ?_)
          refine uw_iast cX_ok hU hx hb hK hM (cr_X11_14 hr0) hq dcX11_inverse_80 (fun z9 H locs hM hq => ?_)
          refine lv_iload_n hx hb dcX11_inverse_81 rfl (lv_at hl 2 rfl) ?_
          exact ct_iret hx hb hr hlocks hM hq hQQ (Nat.le_of_ble_eq_true rfl) (Nat.le_of_ble_eq_true rfl) dcX11_inverse_82
        · have hq := tw_if hq hc
          refine lv_aload_n hx hb dcX11_inverse_26 rfl (lv_at hl 0 rfl) ?_
          refine vgX11_83 hx hb hT hown hK hM hr0 dcX11_inverse_27 ?_
          refine lv_iload_n hx hb dcX11_inverse_30 rfl (lv_at hl 2 rfl) ?_
          refine lv_bipush (v := 16) hx hb dcX11_inverse_31 (by decide) ?_
          refine lv_imul hx hb dcX11_inverse_33 ?_
          refine lv_iload hx hb dcX11_inverse_34 (lv_at hl 4 rfl) ?_
          refine lv_iadd hx hb dcX11_inverse_36 ?_
          refine lv_aload_n hx hb dcX11_inverse_37 rfl (lv_at hl 0 rfl) ?_
          refine vgX11_83 hx hb hT hown hK hM hr0 dcX11_inverse_38 ?_
          refine lv_iload_n hx hb dcX11_inverse_41 rfl (lv_at hl 1 rfl) ?_
          refine lv_bipush (v := 16) hx hb dcX11_inverse_42 (by decide) ?_
          refine lv_imul hx hb dcX11_inverse_44 ?_
          refine lv_iload_n hx hb dcX11_inverse_45 rfl (lv_at hl 3 rfl) ?_
          refine lv_iadd hx hb dcX11_inverse_46 ?_
          refine lv_iconst (v := 1) hx hb dcX11_inverse_47 (by decide) ?_
          refine lv_isub hx hb dcX11_inverse_48 ?_
          refine lv_iload hx hb dcX11_inverse_49 (lv_at hl 4 rfl) ?_
          refine lv_isub hx hb dcX11_inverse_51 ?_
          refine uw_bald cX_ok hx hb hK hM (cr_X11_12 hr0) hq dcX11_inverse_52 (fun v10 hq => ?_)
          refine lv_ineg hx hb dcX11_inverse_53 ?_
          refine lv_i2b hx hb dcX11_inverse_54 rfl ?_
          refine uw_bast cX_ok hU hx hb hK hM (cr_X11_12 hr0) hq dcX11_inverse_55 (fun z11 H locs hM hq => ?_)
          refine lv_iinc (v := (x4 + 1)) (lv' := [(4, .int (x4 + 1)), (0, .ref (u r0)), (1, .int x1), (2, .int x2), (3, .int x3)]) hx hb dcX11_inverse_56 hl (k := 4) rfl rfl (by decide) rfl (fun ls hl => ?_)
          refine lv_goto (tgt := 20) hx hb dcX11_inverse_59 (by decide) ?_
          refine W.widen (k := 2) (n := 12) (Nat.le_of_ble_eq_true rfl) (Nat.le_of_ble_eq_true rfl) ?_
          exact ih_1 x1 x2 x3 (x4 + 1) r0 z11 H locs ls hr0 hM (lv_sub hl [1, 2, 3, 4, 0] rfl) hq
  exact (key K).1 x1 0 0 0 r0 z s.heap [] ls hr0 hM (lv_sub hl [0, 1] rfl) hq
theorem dcX11_normal_0 : decode cX11_normal 0 = .ok (.aload_n 0, 1) := dw_at cX11_normal_k0 (p := 0) rfl (by decide +kernel)
theorem dcX11_normal_1 : decode cX11_normal 1 = .ok (.iload_n 1, 1) := dw_at cX11_normal_k0 (p := 1) rfl (by decide +kernel)
theorem dcX11_normal_2 : decode cX11_normal 2 = .ok (.invokevirtual 379, 3) := dw_at cX11_normal_k0 (p := 2) rfl (by decide +kernel)
theorem dcX11_normal_5 : decode cX11_normal 5 = .ok (.iload_n 2, 1) := dw_at cX11_normal_k0 (p := 5) rfl (by decide +kernel)
theorem dcX11_normal_6 : decode cX11_normal 6 = .ok (.ifCond .lt 8, 3) := dw_at cX11_normal_k0 (p := 6) rfl (by decide +kernel)
theorem dcX11_normal_9 : decode cX11_normal 9 = .ok (.iload_n 2, 1) := dw_at cX11_normal_k0 (p := 9) rfl (by decide +kernel)
theorem dcX11_normal_10 : decode cX11_normal 10 = .ok (.iconst 3, 1) := dw_at cX11_normal_k0 (p := 10) rfl (by decide +kernel)
theorem dcX11_normal_11 : decode cX11_normal 11 = .ok (.if_icmp .le 14, 3) := dw_at cX11_normal_k0 (p := 11) rfl (by decide +kernel)
theorem dcX11_normal_14 : decode cX11_normal 14 = .ok (.new 128, 3) := dw_at cX11_normal_k0 (p := 14) rfl (by decide +kernel)
theorem dcX11_normal_17 : decode cX11_normal 17 = .ok (.dup, 1) := dw_at cX11_normal_k0 (p := 17) rfl (by decide +kernel)
theorem dcX11_normal_18 : decode cX11_normal 18 = .ok (.ldc_w 404, 3) := dw_at cX11_normal_k0 (p := 18) rfl (by decide +kernel)
theorem dcX11_normal_21 : decode cX11_normal 21 = .ok (.invokespecial 132, 3) := dw_at cX11_normal_k0 (p := 21) rfl (by decide +kernel)
theorem dcX11_normal_24 : decode cX11_normal 24 = .ok (.athrow, 1) := dw_at cX11_normal_k1 (p := 0) rfl (by decide +kernel)
theorem dcX11_normal_25 : decode cX11_normal 25 = .ok (.aload_n 0, 1) := dw_at cX11_normal_k1 (p := 1) rfl (by decide +kernel)
theorem dcX11_normal_26 : decode cX11_normal 26 = .ok (.aload_n 0, 1) := dw_at cX11_normal_k1 (p := 2) rfl (by decide +kernel)
theorem dcX11_normal_27 : decode cX11_normal 27 = .ok (.getfield 97, 3) := dw_at cX11_normal_k1 (p := 3) rfl (by decide +kernel)
theorem dcX11_normal_30 : decode cX11_normal 30 = .ok (.iload_n 1, 1) := dw_at cX11_normal_k1 (p := 6) rfl (by decide +kernel)
theorem dcX11_normal_31 : decode cX11_normal 31 = .ok (.invokevirtual 406, 3) := dw_at cX11_normal_k1 (p := 7) rfl (by decide +kernel)
theorem dcX11_normal_34 : decode cX11_normal 34 = .ok (.iload_n 2, 1) := dw_at cX11_normal_k1 (p := 10) rfl (by decide +kernel)
theorem dcX11_normal_35 : decode cX11_normal 35 = .ok (.tableswitch 48 0 2 #[25, 33, 41], 25) := by decide +kernel
theorem dcX11_normal_60 : decode cX11_normal 60 = .ok (.aload_n 0, 1) := dw_at cX11_normal_k2 (p := 0) rfl (by decide +kernel)
theorem dcX11_normal_61 : decode cX11_normal 61 = .ok (.getfield 97, 3) := dw_at cX11_normal_k2 (p := 1) rfl (by decide +kernel)
theorem dcX11_normal_64 : decode cX11_normal 64 = .ok (.getfield 409, 3) := dw_at cX11_normal_k2 (p := 4) rfl (by decide +kernel)
theorem dcX11_normal_67 : decode cX11_normal 67 = .ok (.ireturn, 1) := dw_at cX11_normal_k2 (p := 7) rfl (by decide +kernel)
theorem dcX11_normal_68 : decode cX11_normal 68 = .ok (.aload_n 0, 1) := dw_at cX11_normal_k2 (p := 8) rfl (by decide +kernel)
theorem dcX11_normal_69 : decode cX11_normal 69 = .ok (.getfield 97, 3) := dw_at cX11_normal_k2 (p := 9) rfl (by decide +kernel)
theorem dcX11_normal_72 : decode cX11_normal 72 = .ok (.getfield 412, 3) := dw_at cX11_normal_k2 (p := 12) rfl (by decide +kernel)
theorem dcX11_normal_75 : decode cX11_normal 75 = .ok (.ireturn, 1) := dw_at cX11_normal_k2 (p := 15) rfl (by decide +kernel)
theorem dcX11_normal_76 : decode cX11_normal 76 = .ok (.aload_n 0, 1) := dw_at cX11_normal_k2 (p := 16) rfl (by decide +kernel)
theorem dcX11_normal_77 : decode cX11_normal 77 = .ok (.getfield 87, 3) := dw_at cX11_normal_k2 (p := 17) rfl (by decide +kernel)
theorem dcX11_normal_80 : decode cX11_normal 80 = .ok (.iload_n 1, 1) := dw_at cX11_normal_k2 (p := 20) rfl (by decide +kernel)
theorem dcX11_normal_81 : decode cX11_normal 81 = .ok (.iaload, 1) := dw_at cX11_normal_k2 (p := 21) rfl (by decide +kernel)
theorem dcX11_normal_82 : decode cX11_normal 82 = .ok (.ireturn, 1) := dw_at cX11_normal_k2 (p := 22) rfl (by decide +kernel)
theorem dcX11_normal_83 : decode cX11_normal 83 = .ok (.aload_n 0, 1) := dw_at cX11_normal_k2 (p := 23) rfl (by decide +kernel)
theorem dcX11_normal_84 : decode cX11_normal 84 = .ok (.getfield 91, 3) := dw_at cX11_normal_k2 (p := 24) rfl (by decide +kernel)
theorem dcX11_normal_87 : decode cX11_normal 87 = .ok (.iload_n 1, 1) := dw_at cX11_normal_k2 (p := 27) rfl (by decide +kernel)
theorem dcX11_normal_88 : decode cX11_normal 88 = .ok (.iaload, 1) := dw_at cX11_normal_k2 (p := 28) rfl (by decide +kernel)
theorem dcX11_normal_89 : decode cX11_normal 89 = .ok (.ireturn, 1) := dw_at cX11_normal_k2 (p := 29) rfl (by decide +kernel)
def cm_X11_normal_0 (vl : Nat → Nat) (K : Nat) (x1 : Int32) (x2 : Int32) (r0 : Nat) (z : ow_MS) : Option (Nat × Int32 × ow_MS) :=
 tc0 (ce_X11_needBraid vl K r0 x1 z) (fun k z => some (k, 0, z)) fun z1 => (if x2 < 0 then some (2, 0, z1)
 else (if x2 ≤ 3 then cs0 (ce_X11_write vl K r0 (r0 + 46000) x1 z1) fun z3 => (if x2.toInt < 0 ∨ 2 < x2.toInt then crI (cX vl) z3 (r0 + 15) x1 fun v4 => some (0, v4, z3)
 else (if x2 = 0 then rdF z3 ((r0 + 46000) + 2) fun v5 => some (0, v5, z3)
 else (if x2 = 1 then rdF z3 ((r0 + 46000) + 3) fun v6 => some (0, v6, z3)
 else (if x2 = 2 then crI (cX vl) z3 (r0 + 14) x1 fun v7 => some (0, v7, z3)
 else none))))
 else some (2, 0, z1)))
def ce_X11_normal (vl : Nat → Nat) (K : Nat) (r0 : Nat) (x1 : Int32) (x2 : Int32) (z : ow_MS) : Option (Nat × Int32 × ow_MS) := cm_X11_normal_0 vl K x1 x2 r0 z
abbrev wc_X11_normal : List Cond := .code yX11_normal cX11_normal 3 (some .int) :: wT
theorem cdd_X11_normal : yX11_normal.cls = RX11 ∧ yX11_normal.cls ≠ "java/lang/invoke/MethodHandle" ∧ yX11_normal.cls ≠ "java/lang/invoke/VarHandle" ∧ (parseMethodDescriptor yX11_normal.desc).map (fun d => d.parameters.length) = some 2 := by decide +kernel
set_option maxHeartbeats 4000000 in
set_option maxRecDepth 100000 in
theorem kc_X11_normal (l : Launch) (D : va_G) (q : Nat → ClassId) (vl u : Nat → Nat) (hU0 : tw_inj (cX vl) u) (hlt : l.stackTraces = false) (sa : Nat → Nat) (K : Nat) (r0 : Nat) (x1 : Int32) (x2 : Int32) (hr0 : cw_X11 r0) (z z1 : ow_MS) (k9 : Nat) (r : Int32) (hq : ce_X11_normal vl K r0 x1 x2 z = some (k9, r, z1)) : vx_Met l yX11_normal wc_X11_normal ({ frames := 7, cells := 2, slots := 12, locals := 150 } : Room) (va_Pc [.ref (u r0), .int x1, .int x2] (cw_preT D q vl u sa z)) (va_Qi (fun x (_ : Unit) => k9 = 0 ∧ x = r) (fun _ t => va_P D vwCl (uw (cX vl) q u z1) t.heap) (tw_A (cX vl) u)) (ct_X D q vl u k9 z1) 2 12 (tw_A (cX vl) u) := by
  refine vx_ofW (cc := cX11_normal) (maxL := 3) (ret := (some .int)) (by decide) rfl ?_
  intro p e s m args below meth c s₁ B hml hex hv
  obtain ⟨rfl, hP, hK, hTh⟩ := hv
  have hx := B.exec
  have hb := B.bytes
  have hr := B.returns
  have hts := atoms_spec (ws := wc_X11_normal) B.pre
  have hT : ∀ w ∈ wC, w.before ([.ref (u r0), .int x1, .int x2] : List Value).toArray s = true := fun w h => hts w (List.mem_cons_of_mem _ (wT_C w h))
  have hown : s.vm.findClass RX11 = some m.cls := findClass_of_methodNamed B.named
  have hlocks := B.notSynchronized
  have hU : uw_inj (cX vl) u (tw_A (cX vl) u) := ⟨hU0, fun h hh => ⟨h, hh, rfl⟩⟩
  have hM : uw_M D vwCl (cX vl) q (tw_A (cX vl) u) s.heap u z s.heap [] := ⟨hP, va_S.rf⟩
  have hl := lv_entry ([.ref (u r0), .int x1, .int x2]) (n := 3) (Nat.le_of_ble_eq_true rfl)
  rw [lg_entry_eq]
  generalize (lg_sl ([.ref (u r0), .int x1, .int x2]) ++ List.replicate (3 - (lg_sl ([.ref (u r0), .int x1, .int x2])).length) Slot.unset).toArray = ls at hl ⊢
  have hl : lv_has ls 3 [(0, .ref (u r0)), (1, .int x1), (2, .int x2)] := hl
  refine ow_named (fun QQ hQQ => ?_)
  generalize ([.ref (u r0), .int x1, .int x2] : List Value).toArray = args at hts hT hQQ ⊢
  have hq : cm_X11_normal_0 vl K x1 x2 r0 z = some (k9, r, z1) := hq
  unfold cm_X11_normal_0 at hq
  suffices key : ∀ (H : Heap) (locs : List Loc), uw_M D vwCl (cX vl) q (tw_A (cX vl) u) s.heap u z H locs → W p l e ({ frames := 7, cells := 2, slots := 12, locals := 150 } : Room) s m args below meth c H locs 0 0 QQ (F0 m 0 ls []) from key s.heap [] hM
  intro H locs hM
  refine lv_aload_n hx hb dcX11_normal_0 rfl (lv_at hl 0 rfl) ?_
  refine lv_iload_n hx hb dcX11_normal_1 rfl (lv_at hl 1 rfl) ?_
  obtain ⟨k2, z1, hcq, hq⟩ := ct_tc0 hq
  refine ct_calv hU hM (vx_runV (As := [.int x1]) (rest := []) ⟨hx, hb, hml, hown, hts⟩ (kc_X11_needBraid l D q vl u hU.1 hlt sa K r0 x1 hr0 z z1 k2 hcq) (cwV 1 hts (tw_gV2 wT_good (fun _ h => h) (wT_C _ xq_946) (wT_C _ xq_947) (wT_C _ xq_948) (wT_C _ xq_773) (wT_C _ xq_811)) rfl rfl rfl cdd_X11_needBraid ⟨(Nat.le_of_ble_eq_true rfl), (Nat.le_of_ble_eq_true rfl)⟩) (ct_preV hK hTh hM (co_X11 hr0) rfl) rfl rfl hl.1 rfl (lv_room (Nat.le_of_ble_eq_true rfl)) dcX11_normal_2 ⟨(Nat.le_of_ble_eq_true rfl), (Nat.le_of_ble_eq_true rfl)⟩) (fun E ce q9 H locs hk hE hM hce hcv hcl => ?_) (fun H locs hk hM => ?_)
  · have hq := tw_if hq hk
    obtain ⟨rfl, h9⟩ := Prod.mk.inj (Option.some.inj hq)
    obtain ⟨rfl, rfl⟩ := Prod.mk.inj h9
    exact ct_out hex hlocks hk hE hM hce hcv hcl hQQ (Nat.le_of_ble_eq_true rfl) (Nat.le_of_ble_eq_true rfl)
  have hq := tw_it hq hk
  refine lv_iload_n hx hb dcX11_normal_5 rfl (lv_at hl 2 rfl) ?_
  refine lv_if_lt (tgt := 14) hx hb dcX11_normal_6 (by decide) (fun hc => ?_) (fun hc => ?_)
  · have hq := tw_it hq hc
    obtain ⟨rfl, h9⟩ := Prod.mk.inj (Option.some.inj hq)
    obtain ⟨rfl, rfl⟩ := Prod.mk.inj h9
    exact ct_throwW (k := 2) (text := "there are four numbers of a braid") (cls := "java/lang/IllegalArgumentException") hx hb hlt hown hex hlocks (by rw [hml]; exact hl.1.symm) hTh (List.mem_of_getElem? (i := 26) rfl) rfl (by decide) (by decide +kernel) (hts _ (List.mem_cons_of_mem _ wT_k2)) (hts _ (List.mem_cons_of_mem _ wT_i2)) (fun w h => hts w (List.mem_cons_of_mem _ (wT_2 w h))) th9_2 tg9_2 hM dcX11_normal_14 dcX11_normal_17 dcX11_normal_18 dcX11_normal_21 dcX11_normal_24 hQQ (Nat.le_of_ble_eq_true rfl) (Nat.le_of_ble_eq_true rfl) (Nat.le_of_ble_eq_true rfl) (Nat.le_of_ble_eq_true rfl) (Nat.le_of_ble_eq_true rfl) (Nat.le_of_ble_eq_true rfl)
  · have hq := tw_if hq hc
    refine lv_iload_n hx hb dcX11_normal_9 rfl (lv_at hl 2 rfl) ?_
    refine lv_iconst (v := 3) hx hb dcX11_normal_10 (by decide) ?_
    refine lv_icmp_le (tgt := 25) hx hb dcX11_normal_11 (by decide) (fun hc => ?_) (fun hc => ?_)
    · have hq := tw_it hq hc
      refine lv_aload_n hx hb dcX11_normal_25 rfl (lv_at hl 0 rfl) ?_
      refine lv_aload_n hx hb dcX11_normal_26 rfl (lv_at hl 0 rfl) ?_
      refine vgX11_97 hx hb hT hown hK hM hr0 dcX11_normal_27 ?_
      refine lv_iload_n hx hb dcX11_normal_30 rfl (lv_at hl 1 rfl) ?_
      obtain ⟨z3, hcq, hq⟩ := tw_cl0 hq
      refine uw_calv hU hM (va_runV (As := [.ref (u (r0 + 46000)), .int x1]) (rest := []) ⟨hx, hb, hml, hown, hts⟩ (kc_X11_write l D q vl u hU.1 K r0 (r0 + 46000) x1 hr0 (cs_X11_15 hr0) z1 z3 hcq) (cwV 2 hts (tw_gV2 wT_good wT_C (wT_C _ xq_964) (wT_C _ xq_965) (wT_C _ xq_966) (wT_C _ xq_773) (wT_C _ xq_960)) rfl rfl rfl cdd_X11_write ⟨(Nat.le_of_ble_eq_true rfl), (Nat.le_of_ble_eq_true rfl)⟩) (cw_preV hK hM (co_X11 hr0) rfl) rfl rfl hl.1 rfl (lv_room (Nat.le_of_ble_eq_true rfl)) dcX11_normal_31 ⟨(Nat.le_of_ble_eq_true rfl), (Nat.le_of_ble_eq_true rfl)⟩) (fun H locs hM => ?_)
      refine lv_iload_n hx hb dcX11_normal_34 rfl (lv_at hl 2 rfl) ?_
      by_cases hc : x2.toInt < 0 ∨ 2 < x2.toInt
      · have hq := tw_it hq hc
        refine lv_tableOut (tgt := 83) hx hb dcX11_normal_35 hc (by decide) ?_
        refine lv_aload_n hx hb dcX11_normal_83 rfl (lv_at hl 0 rfl) ?_
        refine vgX11_91 hx hb hT hown hK hM hr0 dcX11_normal_84 ?_
        refine lv_iload_n hx hb dcX11_normal_87 rfl (lv_at hl 1 rfl) ?_
        refine uw_iald cX_ok hx hb hK hM (cr_X11_14 hr0) hq dcX11_normal_88 (fun v4 hq => ?_)
        exact ct_iret hx hb hr hlocks hM hq hQQ (Nat.le_of_ble_eq_true rfl) (Nat.le_of_ble_eq_true rfl) dcX11_normal_89
      · have hq := tw_if hq hc
        by_cases hc : x2 = 0
        · have hq := tw_it hq hc
          refine ow_topi (y := 0) hc ?_
          refine lv_tableIn (x := 0) (tgt := 60) hx hb dcX11_normal_35 (by decide) (by decide) rfl (by decide) ?_
          refine lv_aload_n hx hb dcX11_normal_60 rfl (lv_at hl 0 rfl) ?_
          refine vgX11_97 hx hb hT hown hK hM hr0 dcX11_normal_61 ?_
          refine vgX11_409 hx hb hT hown hK hM (cs_X11_15 hr0) hq dcX11_normal_64 (fun v5 hq => ?_)
          exact ct_iret hx hb hr hlocks hM hq hQQ (Nat.le_of_ble_eq_true rfl) (Nat.le_of_ble_eq_true rfl) dcX11_normal_67
        · have hq := tw_if hq hc
          by_cases hc : x2 = 1
          · have hq := tw_it hq hc
            refine ow_topi (y := 1) hc ?_
            refine lv_tableIn (x := 1) (tgt := 68) hx hb dcX11_normal_35 (by decide) (by decide) rfl (by decide) ?_
            refine lv_aload_n hx hb dcX11_normal_68 rfl (lv_at hl 0 rfl) ?_
            refine vgX11_97 hx hb hT hown hK hM hr0 dcX11_normal_69 ?_
            refine vgX11_412 hx hb hT hown hK hM (cs_X11_15 hr0) hq dcX11_normal_72 (fun v6 hq => ?_)
            exact ct_iret hx hb hr hlocks hM hq hQQ (Nat.le_of_ble_eq_true rfl) (Nat.le_of_ble_eq_true rfl) dcX11_normal_75
          · have hq := tw_if hq hc
            by_cases hc : x2 = 2
            · have hq := tw_it hq hc
              refine ow_topi (y := 2) hc ?_
              refine lv_tableIn (x := 2) (tgt := 76) hx hb dcX11_normal_35 (by decide) (by decide) rfl (by decide) ?_
              refine lv_aload_n hx hb dcX11_normal_76 rfl (lv_at hl 0 rfl) ?_
              refine vgX11_87 hx hb hT hown hK hM hr0 dcX11_normal_77 ?_
              refine lv_iload_n hx hb dcX11_normal_80 rfl (lv_at hl 1 rfl) ?_
              refine uw_iald cX_ok hx hb hK hM (cr_X11_13 hr0) hq dcX11_normal_81 (fun v7 hq => ?_)
              exact ct_iret hx hb hr hlocks hM hq hQQ (Nat.le_of_ble_eq_true rfl) (Nat.le_of_ble_eq_true rfl) dcX11_normal_82
            · have hq := tw_if hq hc
              cases hq
    · have hq := tw_if hq hc
      obtain ⟨rfl, h9⟩ := Prod.mk.inj (Option.some.inj hq)
      obtain ⟨rfl, rfl⟩ := Prod.mk.inj h9
      exact ct_throwW (k := 2) (text := "there are four numbers of a braid") (cls := "java/lang/IllegalArgumentException") hx hb hlt hown hex hlocks (by rw [hml]; exact hl.1.symm) hTh (List.mem_of_getElem? (i := 26) rfl) rfl (by decide) (by decide +kernel) (hts _ (List.mem_cons_of_mem _ wT_k2)) (hts _ (List.mem_cons_of_mem _ wT_i2)) (fun w h => hts w (List.mem_cons_of_mem _ (wT_2 w h))) th9_2 tg9_2 hM dcX11_normal_14 dcX11_normal_17 dcX11_normal_18 dcX11_normal_21 dcX11_normal_24 hQQ (Nat.le_of_ble_eq_true rfl) (Nat.le_of_ble_eq_true rfl) (Nat.le_of_ble_eq_true rfl) (Nat.le_of_ble_eq_true rfl) (Nat.le_of_ble_eq_true rfl) (Nat.le_of_ble_eq_true rfl)
theorem dcX11_factor_0 : decode cX11_factor 0 = .ok (.aload_n 0, 1) := dw_at cX11_factor_k0 (p := 0) rfl (by decide +kernel)
theorem dcX11_factor_1 : decode cX11_factor 1 = .ok (.iload_n 1, 1) := dw_at cX11_factor_k0 (p := 1) rfl (by decide +kernel)
theorem dcX11_factor_2 : decode cX11_factor 2 = .ok (.invokevirtual 379, 3) := dw_at cX11_factor_k0 (p := 2) rfl (by decide +kernel)
theorem dcX11_factor_5 : decode cX11_factor 5 = .ok (.aload_n 0, 1) := dw_at cX11_factor_k0 (p := 5) rfl (by decide +kernel)
theorem dcX11_factor_6 : decode cX11_factor 6 = .ok (.aload_n 0, 1) := dw_at cX11_factor_k0 (p := 6) rfl (by decide +kernel)
theorem dcX11_factor_7 : decode cX11_factor 7 = .ok (.getfield 97, 3) := dw_at cX11_factor_k0 (p := 7) rfl (by decide +kernel)
theorem dcX11_factor_10 : decode cX11_factor 10 = .ok (.iload_n 1, 1) := dw_at cX11_factor_k0 (p := 10) rfl (by decide +kernel)
theorem dcX11_factor_11 : decode cX11_factor 11 = .ok (.invokevirtual 406, 3) := dw_at cX11_factor_k0 (p := 11) rfl (by decide +kernel)
theorem dcX11_factor_14 : decode cX11_factor 14 = .ok (.iload_n 2, 1) := dw_at cX11_factor_k0 (p := 14) rfl (by decide +kernel)
theorem dcX11_factor_15 : decode cX11_factor 15 = .ok (.iconst 1, 1) := dw_at cX11_factor_k0 (p := 15) rfl (by decide +kernel)
theorem dcX11_factor_16 : decode cX11_factor 16 = .ok (.if_icmp .lt 28, 3) := dw_at cX11_factor_k0 (p := 16) rfl (by decide +kernel)
theorem dcX11_factor_19 : decode cX11_factor 19 = .ok (.iload_n 2, 1) := dw_at cX11_factor_k0 (p := 19) rfl (by decide +kernel)
theorem dcX11_factor_20 : decode cX11_factor 20 = .ok (.aload_n 0, 1) := dw_at cX11_factor_k0 (p := 20) rfl (by decide +kernel)
theorem dcX11_factor_21 : decode cX11_factor 21 = .ok (.getfield 97, 3) := dw_at cX11_factor_k0 (p := 21) rfl (by decide +kernel)
theorem dcX11_factor_24 : decode cX11_factor 24 = .ok (.getfield 412, 3) := dw_at cX11_factor_k1 (p := 0) rfl (by decide +kernel)
theorem dcX11_factor_27 : decode cX11_factor 27 = .ok (.if_icmp .gt 17, 3) := dw_at cX11_factor_k1 (p := 3) rfl (by decide +kernel)
theorem dcX11_factor_30 : decode cX11_factor 30 = .ok (.iload_n 3, 1) := dw_at cX11_factor_k1 (p := 6) rfl (by decide +kernel)
theorem dcX11_factor_31 : decode cX11_factor 31 = .ok (.ifCond .lt 13, 3) := dw_at cX11_factor_k1 (p := 7) rfl (by decide +kernel)
theorem dcX11_factor_34 : decode cX11_factor 34 = .ok (.iload_n 3, 1) := dw_at cX11_factor_k1 (p := 10) rfl (by decide +kernel)
theorem dcX11_factor_35 : decode cX11_factor 35 = .ok (.aload_n 0, 1) := dw_at cX11_factor_k1 (p := 11) rfl (by decide +kernel)
theorem dcX11_factor_36 : decode cX11_factor 36 = .ok (.getfield 91, 3) := dw_at cX11_factor_k1 (p := 12) rfl (by decide +kernel)
theorem dcX11_factor_39 : decode cX11_factor 39 = .ok (.iload_n 1, 1) := dw_at cX11_factor_k1 (p := 15) rfl (by decide +kernel)
theorem dcX11_factor_40 : decode cX11_factor 40 = .ok (.iaload, 1) := dw_at cX11_factor_k1 (p := 16) rfl (by decide +kernel)
theorem dcX11_factor_41 : decode cX11_factor 41 = .ok (.if_icmp .lt 5, 3) := dw_at cX11_factor_k1 (p := 17) rfl (by decide +kernel)
theorem dcX11_factor_44 : decode cX11_factor 44 = .ok (.iconst (-1), 1) := dw_at cX11_factor_k1 (p := 20) rfl (by decide +kernel)
theorem dcX11_factor_45 : decode cX11_factor 45 = .ok (.ireturn, 1) := dw_at cX11_factor_k1 (p := 21) rfl (by decide +kernel)
theorem dcX11_factor_46 : decode cX11_factor 46 = .ok (.aload_n 0, 1) := dw_at cX11_factor_k1 (p := 22) rfl (by decide +kernel)
theorem dcX11_factor_47 : decode cX11_factor 47 = .ok (.getfield 97, 3) := dw_at cX11_factor_k1 (p := 23) rfl (by decide +kernel)
theorem dcX11_factor_50 : decode cX11_factor 50 = .ok (.getfield 413, 3) := dw_at cX11_factor_k2 (p := 0) rfl (by decide +kernel)
theorem dcX11_factor_53 : decode cX11_factor 53 = .ok (.iload_n 2, 1) := dw_at cX11_factor_k2 (p := 3) rfl (by decide +kernel)
theorem dcX11_factor_54 : decode cX11_factor 54 = .ok (.iconst 1, 1) := dw_at cX11_factor_k2 (p := 4) rfl (by decide +kernel)
theorem dcX11_factor_55 : decode cX11_factor 55 = .ok (.isub, 1) := dw_at cX11_factor_k2 (p := 5) rfl (by decide +kernel)
theorem dcX11_factor_56 : decode cX11_factor 56 = .ok (.iaload, 1) := dw_at cX11_factor_k2 (p := 6) rfl (by decide +kernel)
theorem dcX11_factor_57 : decode cX11_factor 57 = .ok (.iload_n 3, 1) := dw_at cX11_factor_k2 (p := 7) rfl (by decide +kernel)
theorem dcX11_factor_58 : decode cX11_factor 58 = .ok (.invokestatic 416, 3) := dw_at cX11_factor_k2 (p := 8) rfl (by decide +kernel)
theorem dcX11_factor_61 : decode cX11_factor 61 = .ok (.ireturn, 1) := dw_at cX11_factor_k2 (p := 11) rfl (by decide +kernel)
def cm_X11_factor_0 (vl : Nat → Nat) (K : Nat) (x1 : Int32) (x2 : Int32) (x3 : Int32) (r0 : Nat) (z : ow_MS) : Option (Nat × Int32 × ow_MS) :=
 tc0 (ce_X11_needBraid vl K r0 x1 z) (fun k z => some (k, 0, z)) fun z1 => cs0 (ce_X11_write vl K r0 (r0 + 46000) x1 z1) fun z3 => (if x2 < 1 then some (0, (-1), z3)
 else rdF z3 ((r0 + 46000) + 3) fun v4 => (if v4 < x2 then some (0, (-1), z3)
 else (if x3 < 0 then some (0, (-1), z3)
 else crI (cX vl) z3 (r0 + 15) x1 fun v5 => (if x3 < v5 then crI (cX vl) z3 ((r0 + 46000) + 4) (x2 - 1) fun v6 => cs1 (ce_X5_image vl K v6 x3 z3) fun v8 z7 => some (0, v8, z7)
 else some (0, (-1), z3)))))
def ce_X11_factor (vl : Nat → Nat) (K : Nat) (r0 : Nat) (x1 : Int32) (x2 : Int32) (x3 : Int32) (z : ow_MS) : Option (Nat × Int32 × ow_MS) := cm_X11_factor_0 vl K x1 x2 x3 r0 z
abbrev wc_X11_factor : List Cond := .code yX11_factor cX11_factor 4 (some .int) :: wT
theorem cdd_X11_factor : yX11_factor.cls = RX11 ∧ yX11_factor.cls ≠ "java/lang/invoke/MethodHandle" ∧ yX11_factor.cls ≠ "java/lang/invoke/VarHandle" ∧ (parseMethodDescriptor yX11_factor.desc).map (fun d => d.parameters.length) = some 3 := by decide +kernel
set_option maxHeartbeats 4000000 in
set_option maxRecDepth 100000 in
theorem kc_X11_factor (l : Launch) (D : va_G) (q : Nat → ClassId) (vl u : Nat → Nat) (hU0 : tw_inj (cX vl) u) (hlt : l.stackTraces = false) (sa : Nat → Nat) (K : Nat) (r0 : Nat) (x1 : Int32) (x2 : Int32) (x3 : Int32) (hr0 : cw_X11 r0) (z z1 : ow_MS) (k9 : Nat) (r : Int32) (hq : ce_X11_factor vl K r0 x1 x2 x3 z = some (k9, r, z1)) : vx_Met l yX11_factor wc_X11_factor ({ frames := 7, cells := 1, slots := 6, locals := 150 } : Room) (va_Pc [.ref (u r0), .int x1, .int x2, .int x3] (cw_preT D q vl u sa z)) (va_Qi (fun x (_ : Unit) => k9 = 0 ∧ x = r) (fun _ t => va_P D vwCl (uw (cX vl) q u z1) t.heap) (tw_A (cX vl) u)) (ct_X D q vl u k9 z1) 1 6 (tw_A (cX vl) u) := by
  refine vx_ofW (cc := cX11_factor) (maxL := 4) (ret := (some .int)) (by decide) rfl ?_
  intro p e s m args below meth c s₁ B hml hex hv
  obtain ⟨rfl, hP, hK, hTh⟩ := hv
  have hx := B.exec
  have hb := B.bytes
  have hr := B.returns
  have hts := atoms_spec (ws := wc_X11_factor) B.pre
  have hT : ∀ w ∈ wC, w.before ([.ref (u r0), .int x1, .int x2, .int x3] : List Value).toArray s = true := fun w h => hts w (List.mem_cons_of_mem _ (wT_C w h))
  have hown : s.vm.findClass RX11 = some m.cls := findClass_of_methodNamed B.named
  have hlocks := B.notSynchronized
  have hU : uw_inj (cX vl) u (tw_A (cX vl) u) := ⟨hU0, fun h hh => ⟨h, hh, rfl⟩⟩
  have hM : uw_M D vwCl (cX vl) q (tw_A (cX vl) u) s.heap u z s.heap [] := ⟨hP, va_S.rf⟩
  have hl := lv_entry ([.ref (u r0), .int x1, .int x2, .int x3]) (n := 4) (Nat.le_of_ble_eq_true rfl)
  rw [lg_entry_eq]
  generalize (lg_sl ([.ref (u r0), .int x1, .int x2, .int x3]) ++ List.replicate (4 - (lg_sl ([.ref (u r0), .int x1, .int x2, .int x3])).length) Slot.unset).toArray = ls at hl ⊢
  have hl : lv_has ls 4 [(0, .ref (u r0)), (1, .int x1), (2, .int x2), (3, .int x3)] := hl
  refine ow_named (fun QQ hQQ => ?_)
  generalize ([.ref (u r0), .int x1, .int x2, .int x3] : List Value).toArray = args at hts hT hQQ ⊢
  have hq : cm_X11_factor_0 vl K x1 x2 x3 r0 z = some (k9, r, z1) := hq
  unfold cm_X11_factor_0 at hq
  suffices key : ∀ (H : Heap) (locs : List Loc), uw_M D vwCl (cX vl) q (tw_A (cX vl) u) s.heap u z H locs → W p l e ({ frames := 7, cells := 1, slots := 6, locals := 150 } : Room) s m args below meth c H locs 0 0 QQ (F0 m 0 ls []) from key s.heap [] hM
  intro H locs hM
  refine lv_aload_n hx hb dcX11_factor_0 rfl (lv_at hl 0 rfl) ?_
  refine lv_iload_n hx hb dcX11_factor_1 rfl (lv_at hl 1 rfl) ?_
  obtain ⟨k2, z1, hcq, hq⟩ := ct_tc0 hq
  refine ct_calv hU hM (vx_runV (As := [.int x1]) (rest := []) ⟨hx, hb, hml, hown, hts⟩ (kc_X11_needBraid l D q vl u hU.1 hlt sa K r0 x1 hr0 z z1 k2 hcq) (cwV 1 hts (tw_gV2 wT_good (fun _ h => h) (wT_C _ xq_946) (wT_C _ xq_947) (wT_C _ xq_948) (wT_C _ xq_773) (wT_C _ xq_811)) rfl rfl rfl cdd_X11_needBraid ⟨(Nat.le_of_ble_eq_true rfl), (Nat.le_of_ble_eq_true rfl)⟩) (ct_preV hK hTh hM (co_X11 hr0) rfl) rfl rfl hl.1 rfl (lv_room (Nat.le_of_ble_eq_true rfl)) dcX11_factor_2 ⟨(Nat.le_of_ble_eq_true rfl), (Nat.le_of_ble_eq_true rfl)⟩) (fun E ce q9 H locs hk hE hM hce hcv hcl => ?_) (fun H locs hk hM => ?_)
  · have hq := tw_if hq hk
    obtain ⟨rfl, h9⟩ := Prod.mk.inj (Option.some.inj hq)
    obtain ⟨rfl, rfl⟩ := Prod.mk.inj h9
    exact ct_out hex hlocks hk hE hM hce hcv hcl hQQ (Nat.le_of_ble_eq_true rfl) (Nat.le_of_ble_eq_true rfl)
  have hq := tw_it hq hk
  refine lv_aload_n hx hb dcX11_factor_5 rfl (lv_at hl 0 rfl) ?_
  refine lv_aload_n hx hb dcX11_factor_6 rfl (lv_at hl 0 rfl) ?_
  refine vgX11_97 hx hb hT hown hK hM hr0 dcX11_factor_7 ?_
  refine lv_iload_n hx hb dcX11_factor_10 rfl (lv_at hl 1 rfl) ?_
  obtain ⟨z3, hcq, hq⟩ := tw_cl0 hq
  refine uw_calv hU hM (va_runV (As := [.ref (u (r0 + 46000)), .int x1]) (rest := []) ⟨hx, hb, hml, hown, hts⟩ (kc_X11_write l D q vl u hU.1 K r0 (r0 + 46000) x1 hr0 (cs_X11_15 hr0) z1 z3 hcq) (cwV 2 hts (tw_gV2 wT_good wT_C (wT_C _ xq_964) (wT_C _ xq_965) (wT_C _ xq_966) (wT_C _ xq_773) (wT_C _ xq_960)) rfl rfl rfl cdd_X11_write ⟨(Nat.le_of_ble_eq_true rfl), (Nat.le_of_ble_eq_true rfl)⟩) (cw_preV hK hM (co_X11 hr0) rfl) rfl rfl hl.1 rfl (lv_room (Nat.le_of_ble_eq_true rfl)) dcX11_factor_11 ⟨(Nat.le_of_ble_eq_true rfl), (Nat.le_of_ble_eq_true rfl)⟩) (fun H locs hM => ?_)
  refine lv_iload_n hx hb dcX11_factor_14 rfl (lv_at hl 2 rfl) ?_
  refine lv_iconst (v := 1) hx hb dcX11_factor_15 (by decide) ?_
  refine lv_icmp_lt (tgt := 44) hx hb dcX11_factor_16 (by decide) (fun hc => ?_) (fun hc => ?_)
  · have hq := tw_it hq hc
    refine lv_iconst (v := (-1)) hx hb dcX11_factor_44 (by decide) ?_
    exact ct_iret hx hb hr hlocks hM hq hQQ (Nat.le_of_ble_eq_true rfl) (Nat.le_of_ble_eq_true rfl) dcX11_factor_45
  · have hq := tw_if hq hc
    refine lv_iload_n hx hb dcX11_factor_19 rfl (lv_at hl 2 rfl) ?_
    refine lv_aload_n hx hb dcX11_factor_20 rfl (lv_at hl 0 rfl) ?_
    refine vgX11_97 hx hb hT hown hK hM hr0 dcX11_factor_21 ?_
    refine vgX11_412 hx hb hT hown hK hM (cs_X11_15 hr0) hq dcX11_factor_24 (fun v4 hq => ?_)
    refine lv_icmp_gt (tgt := 44) hx hb dcX11_factor_27 (by decide) (fun hc => ?_) (fun hc => ?_)
    · have hq := tw_it hq hc
      refine lv_iconst (v := (-1)) hx hb dcX11_factor_44 (by decide) ?_
      exact ct_iret hx hb hr hlocks hM hq hQQ (Nat.le_of_ble_eq_true rfl) (Nat.le_of_ble_eq_true rfl) dcX11_factor_45
    · have hq := tw_if hq hc
      refine lv_iload_n hx hb dcX11_factor_30 rfl (lv_at hl 3 rfl) ?_
      refine lv_if_lt (tgt := 44) hx hb dcX11_factor_31 (by decide) (fun hc => ?_) (fun hc => ?_)
      · have hq := tw_it hq hc
        refine lv_iconst (v := (-1)) hx hb dcX11_factor_44 (by decide) ?_
        exact ct_iret hx hb hr hlocks hM hq hQQ (Nat.le_of_ble_eq_true rfl) (Nat.le_of_ble_eq_true rfl) dcX11_factor_45
      · have hq := tw_if hq hc
        refine lv_iload_n hx hb dcX11_factor_34 rfl (lv_at hl 3 rfl) ?_
        refine lv_aload_n hx hb dcX11_factor_35 rfl (lv_at hl 0 rfl) ?_
        refine vgX11_91 hx hb hT hown hK hM hr0 dcX11_factor_36 ?_
        refine lv_iload_n hx hb dcX11_factor_39 rfl (lv_at hl 1 rfl) ?_
        refine uw_iald cX_ok hx hb hK hM (cr_X11_14 hr0) hq dcX11_factor_40 (fun v5 hq => ?_)
        refine lv_icmp_lt (tgt := 46) hx hb dcX11_factor_41 (by decide) (fun hc => ?_) (fun hc => ?_)
        · have hq := tw_it hq hc
          refine lv_aload_n hx hb dcX11_factor_46 rfl (lv_at hl 0 rfl) ?_
          refine vgX11_97 hx hb hT hown hK hM hr0 dcX11_factor_47 ?_
          refine vgX11_413 hx hb hT hown hK hM (cs_X11_15 hr0) dcX11_factor_50 ?_
          refine lv_iload_n hx hb dcX11_factor_53 rfl (lv_at hl 2 rfl) ?_
          refine lv_iconst (v := 1) hx hb dcX11_factor_54 (by decide) ?_
          refine lv_isub hx hb dcX11_factor_55 ?_
          refine uw_iald cX_ok hx hb hK hM (cr_X5_3 (cs_X11_15 hr0)) hq dcX11_factor_56 (fun v6 hq => ?_)
          refine lv_iload_n hx hb dcX11_factor_57 rfl (lv_at hl 3 rfl) ?_
          obtain ⟨v8, z7, hcq, hq⟩ := tw_cl1 hq
          refine uw_cali hU hM (va_runS (As := [.int v6, .int x3]) (rest := []) ⟨hx, hb, hml, hown, hts⟩ (kc_X5_image l D q vl u hU.1 K v6 x3 z3 z7 v8 hcq) (va_cwS 2 hts (tw_gS2 wT_good wT_C (wT_C _ xq_969) (wT_C _ xq_402) (wT_C _ xq_403) (wT_C _ xq_400)) rfl rfl rfl cdd_X5_image ⟨(Nat.le_of_ble_eq_true rfl), (Nat.le_of_ble_eq_true rfl)⟩) (cw_preS hK hM) rfl rfl hl.1 rfl (lv_room (Nat.le_of_ble_eq_true rfl)) dcX11_factor_58 ⟨(Nat.le_of_ble_eq_true rfl), (Nat.le_of_ble_eq_true rfl)⟩) (fun H locs hM => ?_)
          exact ct_iret hx hb hr hlocks hM hq hQQ (Nat.le_of_ble_eq_true rfl) (Nat.le_of_ble_eq_true rfl) dcX11_factor_61
        · have hq := tw_if hq hc
          refine lv_iconst (v := (-1)) hx hb dcX11_factor_44 (by decide) ?_
          exact ct_iret hx hb hr hlocks hM hq hQQ (Nat.le_of_ble_eq_true rfl) (Nat.le_of_ble_eq_true rfl) dcX11_factor_45
theorem dcX11_needFewStrands_0 : decode cX11_needFewStrands 0 = .ok (.aload_n 0, 1) := by decide +kernel
theorem dcX11_needFewStrands_1 : decode cX11_needFewStrands 1 = .ok (.getfield 91, 3) := by decide +kernel
theorem dcX11_needFewStrands_4 : decode cX11_needFewStrands 4 = .ok (.iload_n 1, 1) := by decide +kernel
theorem dcX11_needFewStrands_5 : decode cX11_needFewStrands 5 = .ok (.iaload, 1) := by decide +kernel
theorem dcX11_needFewStrands_6 : decode cX11_needFewStrands 6 = .ok (.iconst 5, 1) := by decide +kernel
theorem dcX11_needFewStrands_7 : decode cX11_needFewStrands 7 = .ok (.if_icmp .lt 14, 3) := by decide +kernel
theorem dcX11_needFewStrands_10 : decode cX11_needFewStrands 10 = .ok (.new 263, 3) := by decide +kernel
theorem dcX11_needFewStrands_13 : decode cX11_needFewStrands 13 = .ok (.dup, 1) := by decide +kernel
theorem dcX11_needFewStrands_14 : decode cX11_needFewStrands 14 = .ok (.ldc_w 432, 3) := by decide +kernel
theorem dcX11_needFewStrands_17 : decode cX11_needFewStrands 17 = .ok (.invokespecial 267, 3) := by decide +kernel
theorem dcX11_needFewStrands_20 : decode cX11_needFewStrands 20 = .ok (.athrow, 1) := by decide +kernel
theorem dcX11_needFewStrands_21 : decode cX11_needFewStrands 21 = .ok (.return_, 1) := by decide +kernel
def cm_X11_needFewStrands_0 (vl : Nat → Nat) (K : Nat) (x1 : Int32) (r0 : Nat) (z : ow_MS) : Option (Nat × ow_MS) :=
 crI (cX vl) z (r0 + 15) x1 fun v1 => (if v1 < 5 then some (0, z)
 else some (4, z))
def ce_X11_needFewStrands (vl : Nat → Nat) (K : Nat) (r0 : Nat) (x1 : Int32) (z : ow_MS) : Option (Nat × ow_MS) := cm_X11_needFewStrands_0 vl K x1 r0 z
abbrev wc_X11_needFewStrands : List Cond := .code yX11_needFewStrands cX11_needFewStrands 2 none :: wT
theorem cdd_X11_needFewStrands : yX11_needFewStrands.cls = RX11 ∧ yX11_needFewStrands.cls ≠ "java/lang/invoke/MethodHandle" ∧ yX11_needFewStrands.cls ≠ "java/lang/invoke/VarHandle" ∧ (parseMethodDescriptor yX11_needFewStrands.desc).map (fun d => d.parameters.length) = some 1 := by decide +kernel
set_option maxHeartbeats 4000000 in
set_option maxRecDepth 100000 in
theorem kc_X11_needFewStrands (l : Launch) (D : va_G) (q : Nat → ClassId) (vl u : Nat → Nat) (hU0 : tw_inj (cX vl) u) (hlt : l.stackTraces = false) (sa : Nat → Nat) (K : Nat) (r0 : Nat) (x1 : Int32) (hr0 : cw_X11 r0) (z z1 : ow_MS) (k9 : Nat) (hq : ce_X11_needFewStrands vl K r0 x1 z = some (k9, z1)) : vx_Met l yX11_needFewStrands wc_X11_needFewStrands ({ frames := 6, cells := 1, slots := 6, locals := 90 } : Room) (va_Pc [.ref (u r0), .int x1] (cw_preT D q vl u sa z)) (va_Qv (fun (_ : Unit) => k9 = 0) (fun _ t => va_P D vwCl (uw (cX vl) q u z1) t.heap) (tw_A (cX vl) u)) (ct_X D q vl u k9 z1) 1 6 (tw_A (cX vl) u) := by
  refine vx_ofW (cc := cX11_needFewStrands) (maxL := 2) (ret := none) (by decide) rfl ?_
  intro p e s m args below meth c s₁ B hml hex hv
  obtain ⟨rfl, hP, hK, hTh⟩ := hv
  have hx := B.exec
  have hb := B.bytes
  have hr := B.returns
  have hts := atoms_spec (ws := wc_X11_needFewStrands) B.pre
  have hT : ∀ w ∈ wC, w.before ([.ref (u r0), .int x1] : List Value).toArray s = true := fun w h => hts w (List.mem_cons_of_mem _ (wT_C w h))
  have hown : s.vm.findClass RX11 = some m.cls := findClass_of_methodNamed B.named
  have hlocks := B.notSynchronized
  have hU : uw_inj (cX vl) u (tw_A (cX vl) u) := ⟨hU0, fun h hh => ⟨h, hh, rfl⟩⟩
  have hM : uw_M D vwCl (cX vl) q (tw_A (cX vl) u) s.heap u z s.heap [] := ⟨hP, va_S.rf⟩
  have hl := lv_entry ([.ref (u r0), .int x1]) (n := 2) (Nat.le_of_ble_eq_true rfl)
  rw [lg_entry_eq]
  generalize (lg_sl ([.ref (u r0), .int x1]) ++ List.replicate (2 - (lg_sl ([.ref (u r0), .int x1])).length) Slot.unset).toArray = ls at hl ⊢
  have hl : lv_has ls 2 [(0, .ref (u r0)), (1, .int x1)] := hl
  refine ow_named (fun QQ hQQ => ?_)
  generalize ([.ref (u r0), .int x1] : List Value).toArray = args at hts hT hQQ ⊢
  have hq : cm_X11_needFewStrands_0 vl K x1 r0 z = some (k9, z1) := hq
  unfold cm_X11_needFewStrands_0 at hq
  suffices key : ∀ (H : Heap) (locs : List Loc), uw_M D vwCl (cX vl) q (tw_A (cX vl) u) s.heap u z H locs → W p l e ({ frames := 6, cells := 1, slots := 6, locals := 90 } : Room) s m args below meth c H locs 0 0 QQ (F0 m 0 ls []) from key s.heap [] hM
  intro H locs hM
  refine lv_aload_n hx hb dcX11_needFewStrands_0 rfl (lv_at hl 0 rfl) ?_
  refine vgX11_91 hx hb hT hown hK hM hr0 dcX11_needFewStrands_1 ?_
  refine lv_iload_n hx hb dcX11_needFewStrands_4 rfl (lv_at hl 1 rfl) ?_
  refine uw_iald cX_ok hx hb hK hM (cr_X11_14 hr0) hq dcX11_needFewStrands_5 (fun v1 hq => ?_)
  refine lv_iconst (v := 5) hx hb dcX11_needFewStrands_6 (by decide) ?_
  refine lv_icmp_lt (tgt := 21) hx hb dcX11_needFewStrands_7 (by decide) (fun hc => ?_) (fun hc => ?_)
  · have hq := tw_it hq hc
    exact ct_vret hx hb hr hlocks hM hq hQQ (Nat.le_of_ble_eq_true rfl) (Nat.le_of_ble_eq_true rfl) dcX11_needFewStrands_21
  · have hq := tw_if hq hc
    obtain ⟨rfl, rfl⟩ := Prod.mk.inj (Option.some.inj hq)
    exact ct_throwW (k := 4) (text := "summit sets are for 2 to 4 strands") (cls := "java/lang/UnsupportedOperationException") hx hb hlt hown hex hlocks (by rw [hml]; exact hl.1.symm) hTh (List.mem_of_getElem? (i := 27) rfl) rfl (by decide) (by decide +kernel) (hts _ (List.mem_cons_of_mem _ wT_k4)) (hts _ (List.mem_cons_of_mem _ wT_i4)) (fun w h => hts w (List.mem_cons_of_mem _ (wT_4 w h))) th9_4 tg9_4 hM dcX11_needFewStrands_10 dcX11_needFewStrands_13 dcX11_needFewStrands_14 dcX11_needFewStrands_17 dcX11_needFewStrands_20 hQQ (Nat.le_of_ble_eq_true rfl) (Nat.le_of_ble_eq_true rfl) (Nat.le_of_ble_eq_true rfl) (Nat.le_of_ble_eq_true rfl) (Nat.le_of_ble_eq_true rfl) (Nat.le_of_ble_eq_true rfl)
theorem dcX11_summit_0 : decode cX11_summit 0 = .ok (.aload_n 0, 1) := by decide +kernel
theorem dcX11_summit_1 : decode cX11_summit 1 = .ok (.iload_n 1, 1) := by decide +kernel
theorem dcX11_summit_2 : decode cX11_summit 2 = .ok (.invokevirtual 379, 3) := by decide +kernel
theorem dcX11_summit_5 : decode cX11_summit 5 = .ok (.aload_n 0, 1) := by decide +kernel
theorem dcX11_summit_6 : decode cX11_summit 6 = .ok (.iload_n 1, 1) := by decide +kernel
theorem dcX11_summit_7 : decode cX11_summit 7 = .ok (.invokevirtual 423, 3) := by decide +kernel
theorem dcX11_summit_10 : decode cX11_summit 10 = .ok (.aload_n 0, 1) := by decide +kernel
theorem dcX11_summit_11 : decode cX11_summit 11 = .ok (.aload_n 0, 1) := by decide +kernel
theorem dcX11_summit_12 : decode cX11_summit 12 = .ok (.getfield 97, 3) := by decide +kernel
theorem dcX11_summit_15 : decode cX11_summit 15 = .ok (.iload_n 1, 1) := by decide +kernel
theorem dcX11_summit_16 : decode cX11_summit 16 = .ok (.invokevirtual 406, 3) := by decide +kernel
theorem dcX11_summit_19 : decode cX11_summit 19 = .ok (.aload_n 0, 1) := by decide +kernel
theorem dcX11_summit_20 : decode cX11_summit 20 = .ok (.getfield 107, 3) := by decide +kernel
theorem dcX11_summit_23 : decode cX11_summit 23 = .ok (.aload_n 0, 1) := by decide +kernel
theorem dcX11_summit_24 : decode cX11_summit 24 = .ok (.getfield 97, 3) := by decide +kernel
theorem dcX11_summit_27 : decode cX11_summit 27 = .ok (.invokevirtual 426, 3) := by decide +kernel
theorem dcX11_summit_30 : decode cX11_summit 30 = .ok (.ireturn, 1) := by decide +kernel
def cm_X11_summit_0 (vl : Nat → Nat) (K : Nat) (x1 : Int32) (r0 : Nat) (z : ow_MS) : Option (Nat × Int32 × ow_MS) :=
 tc0 (ce_X11_needBraid vl K r0 x1 z) (fun k z => some (k, 0, z)) fun z1 => tc0 (ce_X11_needFewStrands vl K r0 x1 z1) (fun k z => some (k, 0, z)) fun z3 => cs0 (ce_X11_write vl K r0 (r0 + 46000) x1 z3) fun z5 => cs1 (ce_X10_find vl K (r0 + 48000) (r0 + 46000) z5) fun v7 z6 => some (0, v7, z6)
def ce_X11_summit (vl : Nat → Nat) (K : Nat) (r0 : Nat) (x1 : Int32) (z : ow_MS) : Option (Nat × Int32 × ow_MS) := cm_X11_summit_0 vl K x1 r0 z
abbrev wc_X11_summit : List Cond := .code yX11_summit cX11_summit 2 (some .int) :: wT
theorem cdd_X11_summit : yX11_summit.cls = RX11 ∧ yX11_summit.cls ≠ "java/lang/invoke/MethodHandle" ∧ yX11_summit.cls ≠ "java/lang/invoke/VarHandle" ∧ (parseMethodDescriptor yX11_summit.desc).map (fun d => d.parameters.length) = some 1 := by decide +kernel
set_option maxHeartbeats 4000000 in
set_option maxRecDepth 100000 in
theorem kc_X11_summit (l : Launch) (D : va_G) (q : Nat → ClassId) (vl u : Nat → Nat) (hU0 : tw_inj (cX vl) u) (hlt : l.stackTraces = false) (sa : Nat → Nat) (K : Nat) (r0 : Nat) (x1 : Int32) (hr0 : cw_X11 r0) (z z1 : ow_MS) (k9 : Nat) (r : Int32) (hq : ce_X11_summit vl K r0 x1 z = some (k9, r, z1)) : vx_Met l yX11_summit wc_X11_summit ({ frames := 7, cells := 2, slots := 12, locals := 173 } : Room) (va_Pc [.ref (u r0), .int x1] (cw_preT D q vl u sa z)) (va_Qi (fun x (_ : Unit) => k9 = 0 ∧ x = r) (fun _ t => va_P D vwCl (uw (cX vl) q u z1) t.heap) (tw_A (cX vl) u)) (ct_X D q vl u k9 z1) 2 12 (tw_A (cX vl) u) := by
  refine vx_ofW (cc := cX11_summit) (maxL := 2) (ret := (some .int)) (by decide) rfl ?_
  intro p e s m args below meth c s₁ B hml hex hv
  obtain ⟨rfl, hP, hK, hTh⟩ := hv
  have hx := B.exec
  have hb := B.bytes
  have hr := B.returns
  have hts := atoms_spec (ws := wc_X11_summit) B.pre
  have hT : ∀ w ∈ wC, w.before ([.ref (u r0), .int x1] : List Value).toArray s = true := fun w h => hts w (List.mem_cons_of_mem _ (wT_C w h))
  have hown : s.vm.findClass RX11 = some m.cls := findClass_of_methodNamed B.named
  have hlocks := B.notSynchronized
  have hU : uw_inj (cX vl) u (tw_A (cX vl) u) := ⟨hU0, fun h hh => ⟨h, hh, rfl⟩⟩
  have hM : uw_M D vwCl (cX vl) q (tw_A (cX vl) u) s.heap u z s.heap [] := ⟨hP, va_S.rf⟩
  have hl := lv_entry ([.ref (u r0), .int x1]) (n := 2) (Nat.le_of_ble_eq_true rfl)
  rw [lg_entry_eq]
  generalize (lg_sl ([.ref (u r0), .int x1]) ++ List.replicate (2 - (lg_sl ([.ref (u r0), .int x1])).length) Slot.unset).toArray = ls at hl ⊢
  have hl : lv_has ls 2 [(0, .ref (u r0)), (1, .int x1)] := hl
  refine ow_named (fun QQ hQQ => ?_)
  generalize ([.ref (u r0), .int x1] : List Value).toArray = args at hts hT hQQ ⊢
  have hq : cm_X11_summit_0 vl K x1 r0 z = some (k9, r, z1) := hq
  unfold cm_X11_summit_0 at hq
  suffices key : ∀ (H : Heap) (locs : List Loc), uw_M D vwCl (cX vl) q (tw_A (cX vl) u) s.heap u z H locs → W p l e ({ frames := 7, cells := 2, slots := 12, locals := 173 } : Room) s m args below meth c H locs 0 0 QQ (F0 m 0 ls []) from key s.heap [] hM
  intro H locs hM
  refine lv_aload_n hx hb dcX11_summit_0 rfl (lv_at hl 0 rfl) ?_
  refine lv_iload_n hx hb dcX11_summit_1 rfl (lv_at hl 1 rfl) ?_
  obtain ⟨k2, z1, hcq, hq⟩ := ct_tc0 hq
  refine ct_calv hU hM (vx_runV (As := [.int x1]) (rest := []) ⟨hx, hb, hml, hown, hts⟩ (kc_X11_needBraid l D q vl u hU.1 hlt sa K r0 x1 hr0 z z1 k2 hcq) (cwV 1 hts (tw_gV2 wT_good (fun _ h => h) (wT_C _ xq_946) (wT_C _ xq_947) (wT_C _ xq_948) (wT_C _ xq_773) (wT_C _ xq_811)) rfl rfl rfl cdd_X11_needBraid ⟨(Nat.le_of_ble_eq_true rfl), (Nat.le_of_ble_eq_true rfl)⟩) (ct_preV hK hTh hM (co_X11 hr0) rfl) rfl rfl hl.1 rfl (lv_room (Nat.le_of_ble_eq_true rfl)) dcX11_summit_2 ⟨(Nat.le_of_ble_eq_true rfl), (Nat.le_of_ble_eq_true rfl)⟩) (fun E ce q9 H locs hk hE hM hce hcv hcl => ?_) (fun H locs hk hM => ?_)
  · have hq := tw_if hq hk
    obtain ⟨rfl, h9⟩ := Prod.mk.inj (Option.some.inj hq)
    obtain ⟨rfl, rfl⟩ := Prod.mk.inj h9
    exact ct_out hex hlocks hk hE hM hce hcv hcl hQQ (Nat.le_of_ble_eq_true rfl) (Nat.le_of_ble_eq_true rfl)
  have hq := tw_it hq hk
  refine lv_aload_n hx hb dcX11_summit_5 rfl (lv_at hl 0 rfl) ?_
  refine lv_iload_n hx hb dcX11_summit_6 rfl (lv_at hl 1 rfl) ?_
  obtain ⟨k4, z3, hcq, hq⟩ := ct_tc0 hq
  refine ct_calv hU hM (vx_runV (As := [.int x1]) (rest := []) ⟨hx, hb, hml, hown, hts⟩ (kc_X11_needFewStrands l D q vl u hU.1 hlt sa K r0 x1 hr0 z1 z3 k4 hcq) (cwV 1 hts (tw_gV2 wT_good (fun _ h => h) (wT_C _ xq_977) (wT_C _ xq_978) (wT_C _ xq_979) (wT_C _ xq_773) (wT_C _ xq_980)) rfl rfl rfl cdd_X11_needFewStrands ⟨(Nat.le_of_ble_eq_true rfl), (Nat.le_of_ble_eq_true rfl)⟩) (ct_preV hK hTh hM (co_X11 hr0) rfl) rfl rfl hl.1 rfl (lv_room (Nat.le_of_ble_eq_true rfl)) dcX11_summit_7 ⟨(Nat.le_of_ble_eq_true rfl), (Nat.le_of_ble_eq_true rfl)⟩) (fun E ce q9 H locs hk hE hM hce hcv hcl => ?_) (fun H locs hk hM => ?_)
  · have hq := tw_if hq hk
    obtain ⟨rfl, h9⟩ := Prod.mk.inj (Option.some.inj hq)
    obtain ⟨rfl, rfl⟩ := Prod.mk.inj h9
    exact ct_out hex hlocks hk hE hM hce hcv hcl hQQ (Nat.le_of_ble_eq_true rfl) (Nat.le_of_ble_eq_true rfl)
  have hq := tw_it hq hk
  refine lv_aload_n hx hb dcX11_summit_10 rfl (lv_at hl 0 rfl) ?_
  refine lv_aload_n hx hb dcX11_summit_11 rfl (lv_at hl 0 rfl) ?_
  refine vgX11_97 hx hb hT hown hK hM hr0 dcX11_summit_12 ?_
  refine lv_iload_n hx hb dcX11_summit_15 rfl (lv_at hl 1 rfl) ?_
  obtain ⟨z5, hcq, hq⟩ := tw_cl0 hq
  refine uw_calv hU hM (va_runV (As := [.ref (u (r0 + 46000)), .int x1]) (rest := []) ⟨hx, hb, hml, hown, hts⟩ (kc_X11_write l D q vl u hU.1 K r0 (r0 + 46000) x1 hr0 (cs_X11_15 hr0) z3 z5 hcq) (cwV 2 hts (tw_gV2 wT_good wT_C (wT_C _ xq_964) (wT_C _ xq_965) (wT_C _ xq_966) (wT_C _ xq_773) (wT_C _ xq_960)) rfl rfl rfl cdd_X11_write ⟨(Nat.le_of_ble_eq_true rfl), (Nat.le_of_ble_eq_true rfl)⟩) (cw_preV hK hM (co_X11 hr0) rfl) rfl rfl hl.1 rfl (lv_room (Nat.le_of_ble_eq_true rfl)) dcX11_summit_16 ⟨(Nat.le_of_ble_eq_true rfl), (Nat.le_of_ble_eq_true rfl)⟩) (fun H locs hM => ?_)
  refine lv_aload_n hx hb dcX11_summit_19 rfl (lv_at hl 0 rfl) ?_
  refine vgX11_107 hx hb hT hown hK hM hr0 dcX11_summit_20 ?_
  refine lv_aload_n hx hb dcX11_summit_23 rfl (lv_at hl 0 rfl) ?_
  refine vgX11_97 hx hb hT hown hK hM hr0 dcX11_summit_24 ?_
  obtain ⟨v7, z6, hcq, hq⟩ := tw_cl1 hq
  refine uw_cali hU hM (va_runV (As := [.ref (u (r0 + 46000))]) (rest := []) ⟨hx, hb, hml, hown, hts⟩ (kc_X10_find l D q vl u hU.1 K (r0 + 48000) (r0 + 46000) (cs_X11_17 hr0) (cs_X11_15 hr0) z5 z6 v7 hcq) (cwV 1 hts (tw_gV2 wT_good wT_C (wT_C _ xq_981) (wT_C _ xq_982) (wT_C _ xq_983) (wT_C _ xq_704) (wT_C _ xq_757)) rfl rfl rfl cdd_X10_find ⟨(Nat.le_of_ble_eq_true rfl), (Nat.le_of_ble_eq_true rfl)⟩) (cw_preV hK hM (co_X10 (cs_X11_17 hr0)) rfl) rfl rfl hl.1 rfl (lv_room (Nat.le_of_ble_eq_true rfl)) dcX11_summit_27 ⟨(Nat.le_of_ble_eq_true rfl), (Nat.le_of_ble_eq_true rfl)⟩) (fun H locs hM => ?_)
  exact ct_iret hx hb hr hlocks hM hq hQQ (Nat.le_of_ble_eq_true rfl) (Nat.le_of_ble_eq_true rfl) dcX11_summit_30
theorem dcX11_conjugate_0 : decode cX11_conjugate 0 = .ok (.aload_n 0, 1) := dw_at cX11_conjugate_k0 (p := 0) rfl (by decide +kernel)
theorem dcX11_conjugate_1 : decode cX11_conjugate 1 = .ok (.iload_n 1, 1) := dw_at cX11_conjugate_k0 (p := 1) rfl (by decide +kernel)
theorem dcX11_conjugate_2 : decode cX11_conjugate 2 = .ok (.invokevirtual 379, 3) := dw_at cX11_conjugate_k0 (p := 2) rfl (by decide +kernel)
theorem dcX11_conjugate_5 : decode cX11_conjugate 5 = .ok (.aload_n 0, 1) := dw_at cX11_conjugate_k0 (p := 5) rfl (by decide +kernel)
theorem dcX11_conjugate_6 : decode cX11_conjugate 6 = .ok (.iload_n 2, 1) := dw_at cX11_conjugate_k0 (p := 6) rfl (by decide +kernel)
theorem dcX11_conjugate_7 : decode cX11_conjugate 7 = .ok (.invokevirtual 379, 3) := dw_at cX11_conjugate_k0 (p := 7) rfl (by decide +kernel)
theorem dcX11_conjugate_10 : decode cX11_conjugate 10 = .ok (.aload_n 0, 1) := dw_at cX11_conjugate_k0 (p := 10) rfl (by decide +kernel)
theorem dcX11_conjugate_11 : decode cX11_conjugate 11 = .ok (.getfield 91, 3) := dw_at cX11_conjugate_k0 (p := 11) rfl (by decide +kernel)
theorem dcX11_conjugate_14 : decode cX11_conjugate 14 = .ok (.iload_n 1, 1) := dw_at cX11_conjugate_k0 (p := 14) rfl (by decide +kernel)
theorem dcX11_conjugate_15 : decode cX11_conjugate 15 = .ok (.iaload, 1) := dw_at cX11_conjugate_k0 (p := 15) rfl (by decide +kernel)
theorem dcX11_conjugate_16 : decode cX11_conjugate 16 = .ok (.aload_n 0, 1) := dw_at cX11_conjugate_k0 (p := 16) rfl (by decide +kernel)
theorem dcX11_conjugate_17 : decode cX11_conjugate 17 = .ok (.getfield 91, 3) := dw_at cX11_conjugate_k0 (p := 17) rfl (by decide +kernel)
theorem dcX11_conjugate_20 : decode cX11_conjugate 20 = .ok (.iload_n 2, 1) := dw_at cX11_conjugate_k0 (p := 20) rfl (by decide +kernel)
theorem dcX11_conjugate_21 : decode cX11_conjugate 21 = .ok (.iaload, 1) := dw_at cX11_conjugate_k0 (p := 21) rfl (by decide +kernel)
theorem dcX11_conjugate_22 : decode cX11_conjugate 22 = .ok (.if_icmp .eq 14, 3) := dw_at cX11_conjugate_k0 (p := 22) rfl (by decide +kernel)
theorem dcX11_conjugate_25 : decode cX11_conjugate 25 = .ok (.new 128, 3) := dw_at cX11_conjugate_k1 (p := 0) rfl (by decide +kernel)
theorem dcX11_conjugate_28 : decode cX11_conjugate 28 = .ok (.dup, 1) := dw_at cX11_conjugate_k1 (p := 3) rfl (by decide +kernel)
theorem dcX11_conjugate_29 : decode cX11_conjugate 29 = .ok (.ldc_w 388, 3) := dw_at cX11_conjugate_k1 (p := 4) rfl (by decide +kernel)
theorem dcX11_conjugate_32 : decode cX11_conjugate 32 = .ok (.invokespecial 132, 3) := dw_at cX11_conjugate_k1 (p := 7) rfl (by decide +kernel)
theorem dcX11_conjugate_35 : decode cX11_conjugate 35 = .ok (.athrow, 1) := dw_at cX11_conjugate_k1 (p := 10) rfl (by decide +kernel)
theorem dcX11_conjugate_36 : decode cX11_conjugate 36 = .ok (.aload_n 0, 1) := dw_at cX11_conjugate_k1 (p := 11) rfl (by decide +kernel)
theorem dcX11_conjugate_37 : decode cX11_conjugate 37 = .ok (.iload_n 1, 1) := dw_at cX11_conjugate_k1 (p := 12) rfl (by decide +kernel)
theorem dcX11_conjugate_38 : decode cX11_conjugate 38 = .ok (.invokevirtual 423, 3) := dw_at cX11_conjugate_k1 (p := 13) rfl (by decide +kernel)
theorem dcX11_conjugate_41 : decode cX11_conjugate 41 = .ok (.aload_n 0, 1) := dw_at cX11_conjugate_k1 (p := 16) rfl (by decide +kernel)
theorem dcX11_conjugate_42 : decode cX11_conjugate 42 = .ok (.aload_n 0, 1) := dw_at cX11_conjugate_k1 (p := 17) rfl (by decide +kernel)
theorem dcX11_conjugate_43 : decode cX11_conjugate 43 = .ok (.getfield 97, 3) := dw_at cX11_conjugate_k1 (p := 18) rfl (by decide +kernel)
theorem dcX11_conjugate_46 : decode cX11_conjugate 46 = .ok (.iload_n 1, 1) := dw_at cX11_conjugate_k1 (p := 21) rfl (by decide +kernel)
theorem dcX11_conjugate_47 : decode cX11_conjugate 47 = .ok (.invokevirtual 406, 3) := dw_at cX11_conjugate_k1 (p := 22) rfl (by decide +kernel)
theorem dcX11_conjugate_50 : decode cX11_conjugate 50 = .ok (.aload_n 0, 1) := dw_at cX11_conjugate_k2 (p := 0) rfl (by decide +kernel)
theorem dcX11_conjugate_51 : decode cX11_conjugate 51 = .ok (.getfield 107, 3) := dw_at cX11_conjugate_k2 (p := 1) rfl (by decide +kernel)
theorem dcX11_conjugate_54 : decode cX11_conjugate 54 = .ok (.aload_n 0, 1) := dw_at cX11_conjugate_k2 (p := 4) rfl (by decide +kernel)
theorem dcX11_conjugate_55 : decode cX11_conjugate 55 = .ok (.getfield 97, 3) := dw_at cX11_conjugate_k2 (p := 5) rfl (by decide +kernel)
theorem dcX11_conjugate_58 : decode cX11_conjugate 58 = .ok (.invokevirtual 426, 3) := dw_at cX11_conjugate_k2 (p := 8) rfl (by decide +kernel)
theorem dcX11_conjugate_61 : decode cX11_conjugate 61 = .ok (.istore_n 3, 1) := dw_at cX11_conjugate_k2 (p := 11) rfl (by decide +kernel)
theorem dcX11_conjugate_62 : decode cX11_conjugate 62 = .ok (.aload_n 0, 1) := dw_at cX11_conjugate_k2 (p := 12) rfl (by decide +kernel)
theorem dcX11_conjugate_63 : decode cX11_conjugate 63 = .ok (.aload_n 0, 1) := dw_at cX11_conjugate_k2 (p := 13) rfl (by decide +kernel)
theorem dcX11_conjugate_64 : decode cX11_conjugate 64 = .ok (.getfield 97, 3) := dw_at cX11_conjugate_k2 (p := 14) rfl (by decide +kernel)
theorem dcX11_conjugate_67 : decode cX11_conjugate 67 = .ok (.iload_n 2, 1) := dw_at cX11_conjugate_k2 (p := 17) rfl (by decide +kernel)
theorem dcX11_conjugate_68 : decode cX11_conjugate 68 = .ok (.invokevirtual 406, 3) := dw_at cX11_conjugate_k2 (p := 18) rfl (by decide +kernel)
theorem dcX11_conjugate_71 : decode cX11_conjugate 71 = .ok (.aload_n 0, 1) := dw_at cX11_conjugate_k2 (p := 21) rfl (by decide +kernel)
theorem dcX11_conjugate_72 : decode cX11_conjugate 72 = .ok (.getfield 111, 3) := dw_at cX11_conjugate_k2 (p := 22) rfl (by decide +kernel)
theorem dcX11_conjugate_75 : decode cX11_conjugate 75 = .ok (.aload_n 0, 1) := dw_at cX11_conjugate_k3 (p := 0) rfl (by decide +kernel)
theorem dcX11_conjugate_76 : decode cX11_conjugate 76 = .ok (.getfield 97, 3) := dw_at cX11_conjugate_k3 (p := 1) rfl (by decide +kernel)
theorem dcX11_conjugate_79 : decode cX11_conjugate 79 = .ok (.invokevirtual 426, 3) := dw_at cX11_conjugate_k3 (p := 4) rfl (by decide +kernel)
theorem dcX11_conjugate_82 : decode cX11_conjugate 82 = .ok (.istore 4, 2) := dw_at cX11_conjugate_k3 (p := 7) rfl (by decide +kernel)
theorem dcX11_conjugate_84 : decode cX11_conjugate 84 = .ok (.iload_n 3, 1) := dw_at cX11_conjugate_k3 (p := 9) rfl (by decide +kernel)
theorem dcX11_conjugate_85 : decode cX11_conjugate 85 = .ok (.bipush (-2), 2) := dw_at cX11_conjugate_k3 (p := 10) rfl (by decide +kernel)
theorem dcX11_conjugate_87 : decode cX11_conjugate 87 = .ok (.if_icmp .eq 10, 3) := dw_at cX11_conjugate_k3 (p := 12) rfl (by decide +kernel)
theorem dcX11_conjugate_90 : decode cX11_conjugate 90 = .ok (.iload 4, 2) := dw_at cX11_conjugate_k3 (p := 15) rfl (by decide +kernel)
theorem dcX11_conjugate_92 : decode cX11_conjugate 92 = .ok (.bipush (-2), 2) := dw_at cX11_conjugate_k3 (p := 17) rfl (by decide +kernel)
theorem dcX11_conjugate_94 : decode cX11_conjugate 94 = .ok (.if_icmp .ne 6, 3) := dw_at cX11_conjugate_k3 (p := 19) rfl (by decide +kernel)
theorem dcX11_conjugate_97 : decode cX11_conjugate 97 = .ok (.bipush (-2), 2) := dw_at cX11_conjugate_k3 (p := 22) rfl (by decide +kernel)
theorem dcX11_conjugate_99 : decode cX11_conjugate 99 = .ok (.ireturn, 1) := dw_at cX11_conjugate_k4 (p := 0) rfl (by decide +kernel)
theorem dcX11_conjugate_100 : decode cX11_conjugate 100 = .ok (.aload_n 0, 1) := dw_at cX11_conjugate_k4 (p := 1) rfl (by decide +kernel)
theorem dcX11_conjugate_101 : decode cX11_conjugate 101 = .ok (.getfield 107, 3) := dw_at cX11_conjugate_k4 (p := 2) rfl (by decide +kernel)
theorem dcX11_conjugate_104 : decode cX11_conjugate 104 = .ok (.aload_n 0, 1) := dw_at cX11_conjugate_k4 (p := 5) rfl (by decide +kernel)
theorem dcX11_conjugate_105 : decode cX11_conjugate 105 = .ok (.getfield 111, 3) := dw_at cX11_conjugate_k4 (p := 6) rfl (by decide +kernel)
theorem dcX11_conjugate_108 : decode cX11_conjugate 108 = .ok (.invokevirtual 429, 3) := dw_at cX11_conjugate_k4 (p := 9) rfl (by decide +kernel)
theorem dcX11_conjugate_111 : decode cX11_conjugate 111 = .ok (.ifCond .eq 7, 3) := dw_at cX11_conjugate_k4 (p := 12) rfl (by decide +kernel)
theorem dcX11_conjugate_114 : decode cX11_conjugate 114 = .ok (.iconst 1, 1) := dw_at cX11_conjugate_k4 (p := 15) rfl (by decide +kernel)
theorem dcX11_conjugate_115 : decode cX11_conjugate 115 = .ok (.goto 4, 3) := dw_at cX11_conjugate_k4 (p := 16) rfl (by decide +kernel)
theorem dcX11_conjugate_118 : decode cX11_conjugate 118 = .ok (.iconst 0, 1) := dw_at cX11_conjugate_k4 (p := 19) rfl (by decide +kernel)
theorem dcX11_conjugate_119 : decode cX11_conjugate 119 = .ok (.ireturn, 1) := dw_at cX11_conjugate_k4 (p := 20) rfl (by decide +kernel)
def cm_X11_conjugate_0 (vl : Nat → Nat) (K : Nat) (x1 : Int32) (x2 : Int32) (r0 : Nat) (z : ow_MS) : Option (Nat × Int32 × ow_MS) :=
 tc0 (ce_X11_needBraid vl K r0 x1 z) (fun k z => some (k, 0, z)) fun z1 => tc0 (ce_X11_needBraid vl K r0 x2 z1) (fun k z => some (k, 0, z)) fun z3 => crI (cX vl) z3 (r0 + 15) x1 fun v5 => crI (cX vl) z3 (r0 + 15) x2 fun v6 => (if v5 = v6 then tc0 (ce_X11_needFewStrands vl K r0 x1 z3) (fun k z => some (k, 0, z)) fun z7 => cs0 (ce_X11_write vl K r0 (r0 + 46000) x1 z7) fun z9 => cs1 (ce_X10_find vl K (r0 + 48000) (r0 + 46000) z9) fun v11 z10 => cs0 (ce_X11_write vl K r0 (r0 + 46000) x2 z10) fun z12 => cs1 (ce_X10_find vl K (r0 + 50000) (r0 + 46000) z12) fun v14 z13 => (if v11 = (-2) then some (0, (-2), z13)
 else (if v14 = (-2) then some (0, (-2), z13)
 else cs1 (ce_X10_sameAs vl K (r0 + 48000) (r0 + 50000) z13) fun v16 z15 => (if v16 = 0 then some (0, 0, z15)
 else some (0, 1, z15))))
 else some (2, 0, z3))
def ce_X11_conjugate (vl : Nat → Nat) (K : Nat) (r0 : Nat) (x1 : Int32) (x2 : Int32) (z : ow_MS) : Option (Nat × Int32 × ow_MS) := cm_X11_conjugate_0 vl K x1 x2 r0 z
abbrev wc_X11_conjugate : List Cond := .code yX11_conjugate cX11_conjugate 5 (some .int) :: wT
theorem cdd_X11_conjugate : yX11_conjugate.cls = RX11 ∧ yX11_conjugate.cls ≠ "java/lang/invoke/MethodHandle" ∧ yX11_conjugate.cls ≠ "java/lang/invoke/VarHandle" ∧ (parseMethodDescriptor yX11_conjugate.desc).map (fun d => d.parameters.length) = some 2 := by decide +kernel
set_option maxHeartbeats 4000000 in
set_option maxRecDepth 100000 in
theorem kc_X11_conjugate (l : Launch) (D : va_G) (q : Nat → ClassId) (vl u : Nat → Nat) (hU0 : tw_inj (cX vl) u) (hlt : l.stackTraces = false) (sa : Nat → Nat) (K : Nat) (r0 : Nat) (x1 : Int32) (x2 : Int32) (hr0 : cw_X11 r0) (z z1 : ow_MS) (k9 : Nat) (r : Int32) (hq : ce_X11_conjugate vl K r0 x1 x2 z = some (k9, r, z1)) : vx_Met l yX11_conjugate wc_X11_conjugate ({ frames := 7, cells := 4, slots := 24, locals := 173 } : Room) (va_Pc [.ref (u r0), .int x1, .int x2] (cw_preT D q vl u sa z)) (va_Qi (fun x (_ : Unit) => k9 = 0 ∧ x = r) (fun _ t => va_P D vwCl (uw (cX vl) q u z1) t.heap) (tw_A (cX vl) u)) (ct_X D q vl u k9 z1) 4 24 (tw_A (cX vl) u) := by
  refine vx_ofW (cc := cX11_conjugate) (maxL := 5) (ret := (some .int)) (by decide) rfl ?_
  intro p e s m args below meth c s₁ B hml hex hv
  obtain ⟨rfl, hP, hK, hTh⟩ := hv
  have hx := B.exec
  have hb := B.bytes
  have hr := B.returns
  have hts := atoms_spec (ws := wc_X11_conjugate) B.pre
  have hT : ∀ w ∈ wC, w.before ([.ref (u r0), .int x1, .int x2] : List Value).toArray s = true := fun w h => hts w (List.mem_cons_of_mem _ (wT_C w h))
  have hown : s.vm.findClass RX11 = some m.cls := findClass_of_methodNamed B.named
  have hlocks := B.notSynchronized
  have hU : uw_inj (cX vl) u (tw_A (cX vl) u) := ⟨hU0, fun h hh => ⟨h, hh, rfl⟩⟩
  have hM : uw_M D vwCl (cX vl) q (tw_A (cX vl) u) s.heap u z s.heap [] := ⟨hP, va_S.rf⟩
  have hl := lv_entry ([.ref (u r0), .int x1, .int x2]) (n := 5) (Nat.le_of_ble_eq_true rfl)
  rw [lg_entry_eq]
  generalize (lg_sl ([.ref (u r0), .int x1, .int x2]) ++ List.replicate (5 - (lg_sl ([.ref (u r0), .int x1, .int x2])).length) Slot.unset).toArray = ls at hl ⊢
  have hl : lv_has ls 5 [(0, .ref (u r0)), (1, .int x1), (2, .int x2)] := hl
  refine ow_named (fun QQ hQQ => ?_)
  generalize ([.ref (u r0), .int x1, .int x2] : List Value).toArray = args at hts hT hQQ ⊢
  have hq : cm_X11_conjugate_0 vl K x1 x2 r0 z = some (k9, r, z1) := hq
  unfold cm_X11_conjugate_0 at hq
  suffices key : ∀ (H : Heap) (locs : List Loc), uw_M D vwCl (cX vl) q (tw_A (cX vl) u) s.heap u z H locs → W p l e ({ frames := 7, cells := 4, slots := 24, locals := 173 } : Room) s m args below meth c H locs 0 0 QQ (F0 m 0 ls []) from key s.heap [] hM
  intro H locs hM
  refine lv_aload_n hx hb dcX11_conjugate_0 rfl (lv_at hl 0 rfl) ?_
  refine lv_iload_n hx hb dcX11_conjugate_1 rfl (lv_at hl 1 rfl) ?_
  obtain ⟨k2, z1, hcq, hq⟩ := ct_tc0 hq
  refine ct_calv hU hM (vx_runV (As := [.int x1]) (rest := []) ⟨hx, hb, hml, hown, hts⟩ (kc_X11_needBraid l D q vl u hU.1 hlt sa K r0 x1 hr0 z z1 k2 hcq) (cwV 1 hts (tw_gV2 wT_good (fun _ h => h) (wT_C _ xq_946) (wT_C _ xq_947) (wT_C _ xq_948) (wT_C _ xq_773) (wT_C _ xq_811)) rfl rfl rfl cdd_X11_needBraid ⟨(Nat.le_of_ble_eq_true rfl), (Nat.le_of_ble_eq_true rfl)⟩) (ct_preV hK hTh hM (co_X11 hr0) rfl) rfl rfl hl.1 rfl (lv_room (Nat.le_of_ble_eq_true rfl)) dcX11_conjugate_2 ⟨(Nat.le_of_ble_eq_true rfl), (Nat.le_of_ble_eq_true rfl)⟩) (fun E ce q9 H locs hk hE hM hce hcv hcl => ?_) (fun H locs hk hM => ?_)
  · have hq := tw_if hq hk
    obtain ⟨rfl, h9⟩ := Prod.mk.inj (Option.some.inj hq)
    obtain ⟨rfl, rfl⟩ := Prod.mk.inj h9
    exact ct_out hex hlocks hk hE hM hce hcv hcl hQQ (Nat.le_of_ble_eq_true rfl) (Nat.le_of_ble_eq_true rfl)
  have hq := tw_it hq hk
  refine lv_aload_n hx hb dcX11_conjugate_5 rfl (lv_at hl 0 rfl) ?_
  refine lv_iload_n hx hb dcX11_conjugate_6 rfl (lv_at hl 2 rfl) ?_
  obtain ⟨k4, z3, hcq, hq⟩ := ct_tc0 hq
  refine ct_calv hU hM (vx_runV (As := [.int x2]) (rest := []) ⟨hx, hb, hml, hown, hts⟩ (kc_X11_needBraid l D q vl u hU.1 hlt sa K r0 x2 hr0 z1 z3 k4 hcq) (cwV 1 hts (tw_gV2 wT_good (fun _ h => h) (wT_C _ xq_946) (wT_C _ xq_947) (wT_C _ xq_948) (wT_C _ xq_773) (wT_C _ xq_811)) rfl rfl rfl cdd_X11_needBraid ⟨(Nat.le_of_ble_eq_true rfl), (Nat.le_of_ble_eq_true rfl)⟩) (ct_preV hK hTh hM (co_X11 hr0) rfl) rfl rfl hl.1 rfl (lv_room (Nat.le_of_ble_eq_true rfl)) dcX11_conjugate_7 ⟨(Nat.le_of_ble_eq_true rfl), (Nat.le_of_ble_eq_true rfl)⟩) (fun E ce q9 H locs hk hE hM hce hcv hcl => ?_) (fun H locs hk hM => ?_)
  · have hq := tw_if hq hk
    obtain ⟨rfl, h9⟩ := Prod.mk.inj (Option.some.inj hq)
    obtain ⟨rfl, rfl⟩ := Prod.mk.inj h9
    exact ct_out hex hlocks hk hE hM hce hcv hcl hQQ (Nat.le_of_ble_eq_true rfl) (Nat.le_of_ble_eq_true rfl)
  have hq := tw_it hq hk
  refine lv_aload_n hx hb dcX11_conjugate_10 rfl (lv_at hl 0 rfl) ?_
  refine vgX11_91 hx hb hT hown hK hM hr0 dcX11_conjugate_11 ?_
  refine lv_iload_n hx hb dcX11_conjugate_14 rfl (lv_at hl 1 rfl) ?_
  refine uw_iald cX_ok hx hb hK hM (cr_X11_14 hr0) hq dcX11_conjugate_15 (fun v5 hq => ?_)
  refine lv_aload_n hx hb dcX11_conjugate_16 rfl (lv_at hl 0 rfl) ?_
  refine vgX11_91 hx hb hT hown hK hM hr0 dcX11_conjugate_17 ?_
  refine lv_iload_n hx hb dcX11_conjugate_20 rfl (lv_at hl 2 rfl) ?_
  refine uw_iald cX_ok hx hb hK hM (cr_X11_14 hr0) hq dcX11_conjugate_21 (fun v6 hq => ?_)
  refine lv_icmp_eq (tgt := 36) hx hb dcX11_conjugate_22 (by decide) (fun hc => ?_) (fun hc => ?_)
  · have hq := tw_it hq hc
    refine lv_aload_n hx hb dcX11_conjugate_36 rfl (lv_at hl 0 rfl) ?_
    refine lv_iload_n hx hb dcX11_conjugate_37 rfl (lv_at hl 1 rfl) ?_
    obtain ⟨k8, z7, hcq, hq⟩ := ct_tc0 hq
    refine ct_calv hU hM (vx_runV (As := [.int x1]) (rest := []) ⟨hx, hb, hml, hown, hts⟩ (kc_X11_needFewStrands l D q vl u hU.1 hlt sa K r0 x1 hr0 z3 z7 k8 hcq) (cwV 1 hts (tw_gV2 wT_good (fun _ h => h) (wT_C _ xq_977) (wT_C _ xq_978) (wT_C _ xq_979) (wT_C _ xq_773) (wT_C _ xq_980)) rfl rfl rfl cdd_X11_needFewStrands ⟨(Nat.le_of_ble_eq_true rfl), (Nat.le_of_ble_eq_true rfl)⟩) (ct_preV hK hTh hM (co_X11 hr0) rfl) rfl rfl hl.1 rfl (lv_room (Nat.le_of_ble_eq_true rfl)) dcX11_conjugate_38 ⟨(Nat.le_of_ble_eq_true rfl), (Nat.le_of_ble_eq_true rfl)⟩) (fun E ce q9 H locs hk hE hM hce hcv hcl => ?_) (fun H locs hk hM => ?_)
    · have hq := tw_if hq hk
      obtain ⟨rfl, h9⟩ := Prod.mk.inj (Option.some.inj hq)
      obtain ⟨rfl, rfl⟩ := Prod.mk.inj h9
      exact ct_out hex hlocks hk hE hM hce hcv hcl hQQ (Nat.le_of_ble_eq_true rfl) (Nat.le_of_ble_eq_true rfl)
    have hq := tw_it hq hk
    refine lv_aload_n hx hb dcX11_conjugate_41 rfl (lv_at hl 0 rfl) ?_
    refine lv_aload_n hx hb dcX11_conjugate_42 rfl (lv_at hl 0 rfl) ?_
    refine vgX11_97 hx hb hT hown hK hM hr0 dcX11_conjugate_43 ?_
    refine lv_iload_n hx hb dcX11_conjugate_46 rfl (lv_at hl 1 rfl) ?_
    obtain ⟨z9, hcq, hq⟩ := tw_cl0 hq
    refine uw_calv hU hM (va_runV (As := [.ref (u (r0 + 46000)), .int x1]) (rest := []) ⟨hx, hb, hml, hown, hts⟩ (kc_X11_write l D q vl u hU.1 K r0 (r0 + 46000) x1 hr0 (cs_X11_15 hr0) z7 z9 hcq) (cwV 2 hts (tw_gV2 wT_good wT_C (wT_C _ xq_964) (wT_C _ xq_965) (wT_C _ xq_966) (wT_C _ xq_773) (wT_C _ xq_960)) rfl rfl rfl cdd_X11_write ⟨(Nat.le_of_ble_eq_true rfl), (Nat.le_of_ble_eq_true rfl)⟩) (cw_preV hK hM (co_X11 hr0) rfl) rfl rfl hl.1 rfl (lv_room (Nat.le_of_ble_eq_true rfl)) dcX11_conjugate_47 ⟨(Nat.le_of_ble_eq_true rfl), (Nat.le_of_ble_eq_true rfl)⟩) (fun H locs hM => ?_)
    refine lv_aload_n hx hb dcX11_conjugate_50 rfl (lv_at hl 0 rfl) ?_
    refine vgX11_107 hx hb hT hown hK hM hr0 dcX11_conjugate_51 ?_
    refine lv_aload_n hx hb dcX11_conjugate_54 rfl (lv_at hl 0 rfl) ?_
    refine vgX11_97 hx hb hT hown hK hM hr0 dcX11_conjugate_55 ?_
    obtain ⟨v11, z10, hcq, hq⟩ := tw_cl1 hq
    refine uw_cali hU hM (va_runV (As := [.ref (u (r0 + 46000))]) (rest := []) ⟨hx, hb, hml, hown, hts⟩ (kc_X10_find l D q vl u hU.1 K (r0 + 48000) (r0 + 46000) (cs_X11_17 hr0) (cs_X11_15 hr0) z9 z10 v11 hcq) (cwV 1 hts (tw_gV2 wT_good wT_C (wT_C _ xq_981) (wT_C _ xq_982) (wT_C _ xq_983) (wT_C _ xq_704) (wT_C _ xq_757)) rfl rfl rfl cdd_X10_find ⟨(Nat.le_of_ble_eq_true rfl), (Nat.le_of_ble_eq_true rfl)⟩) (cw_preV hK hM (co_X10 (cs_X11_17 hr0)) rfl) rfl rfl hl.1 rfl (lv_room (Nat.le_of_ble_eq_true rfl)) dcX11_conjugate_58 ⟨(Nat.le_of_ble_eq_true rfl), (Nat.le_of_ble_eq_true rfl)⟩) (fun H locs hM => ?_)
    refine lv_istore_n (lv' := [(3, .int v11), (0, .ref (u r0)), (1, .int x1), (2, .int x2)]) hx hb dcX11_conjugate_61 rfl hl (by decide) rfl (fun ls hl => ?_)
    refine lv_aload_n hx hb dcX11_conjugate_62 rfl (lv_at hl 1 rfl) ?_
    refine lv_aload_n hx hb dcX11_conjugate_63 rfl (lv_at hl 1 rfl) ?_
    refine vgX11_97 hx hb hT hown hK hM hr0 dcX11_conjugate_64 ?_
    refine lv_iload_n hx hb dcX11_conjugate_67 rfl (lv_at hl 3 rfl) ?_
    obtain ⟨z12, hcq, hq⟩ := tw_cl0 hq
    refine uw_calv hU hM (va_runV (As := [.ref (u (r0 + 46000)), .int x2]) (rest := []) ⟨hx, hb, hml, hown, hts⟩ (kc_X11_write l D q vl u hU.1 K r0 (r0 + 46000) x2 hr0 (cs_X11_15 hr0) z10 z12 hcq) (cwV 2 hts (tw_gV2 wT_good wT_C (wT_C _ xq_964) (wT_C _ xq_965) (wT_C _ xq_966) (wT_C _ xq_773) (wT_C _ xq_960)) rfl rfl rfl cdd_X11_write ⟨(Nat.le_of_ble_eq_true rfl), (Nat.le_of_ble_eq_true rfl)⟩) (cw_preV hK hM (co_X11 hr0) rfl) rfl rfl hl.1 rfl (lv_room (Nat.le_of_ble_eq_true rfl)) dcX11_conjugate_68 ⟨(Nat.le_of_ble_eq_true rfl), (Nat.le_of_ble_eq_true rfl)⟩) (fun H locs hM => ?_)
    refine lv_aload_n hx hb dcX11_conjugate_71 rfl (lv_at hl 1 rfl) ?_
    refine vgX11_111 hx hb hT hown hK hM hr0 dcX11_conjugate_72 ?_
    refine lv_aload_n hx hb dcX11_conjugate_75 rfl (lv_at hl 1 rfl) ?_
    refine vgX11_97 hx hb hT hown hK hM hr0 dcX11_conjugate_76 ?_
    obtain ⟨v14, z13, hcq, hq⟩ := tw_cl1 hq
    refine uw_cali hU hM (va_runV (As := [.ref (u (r0 + 46000))]) (rest := []) ⟨hx, hb, hml, hown, hts⟩ (kc_X10_find l D q vl u hU.1 K (r0 + 50000) (r0 + 46000) (cs_X11_18 hr0) (cs_X11_15 hr0) z12 z13 v14 hcq) (cwV 1 hts (tw_gV2 wT_good wT_C (wT_C _ xq_981) (wT_C _ xq_982) (wT_C _ xq_983) (wT_C _ xq_704) (wT_C _ xq_757)) rfl rfl rfl cdd_X10_find ⟨(Nat.le_of_ble_eq_true rfl), (Nat.le_of_ble_eq_true rfl)⟩) (cw_preV hK hM (co_X10 (cs_X11_18 hr0)) rfl) rfl rfl hl.1 rfl (lv_room (Nat.le_of_ble_eq_true rfl)) dcX11_conjugate_79 ⟨(Nat.le_of_ble_eq_true rfl), (Nat.le_of_ble_eq_true rfl)⟩) (fun H locs hM => ?_)
    refine lv_istore (lv' := [(4, .int v14), (3, .int v11), (0, .ref (u r0)), (1, .int x1), (2, .int x2)]) hx hb dcX11_conjugate_82 hl (by decide) rfl (fun ls hl => ?_)
    refine lv_iload_n hx hb dcX11_conjugate_84 rfl (lv_at hl 1 rfl) ?_
    refine lv_bipush (v := (-2)) hx hb dcX11_conjugate_85 (by decide) ?_
    refine lv_icmp_eq (tgt := 97) hx hb dcX11_conjugate_87 (by decide) (fun hc => ?_) (fun hc => ?_)
    · have hq := tw_it hq hc
      refine lv_bipush (v := (-2)) hx hb dcX11_conjugate_97 (by decide) ?_
      exact ct_iret hx hb hr hlocks hM hq hQQ (Nat.le_of_ble_eq_true rfl) (Nat.le_of_ble_eq_true rfl) dcX11_conjugate_99
    · have hq := tw_if hq hc
      refine lv_iload hx hb dcX11_conjugate_90 (lv_at hl 0 rfl) ?_
      refine lv_bipush (v := (-2)) hx hb dcX11_conjugate_92 (by decide) ?_
      refine lv_icmp_ne (tgt := 100) hx hb dcX11_conjugate_94 (by decide) (fun hc => ?_) (fun hc => ?_)
      · have hq := tw_if hq hc
        refine lv_aload_n hx hb dcX11_conjugate_100 rfl (lv_at hl 2 rfl) ?_
        refine vgX11_107 hx hb hT hown hK hM hr0 dcX11_conjugate_101 ?_
        refine lv_aload_n hx hb dcX11_conjugate_104 rfl (lv_at hl 2 rfl) ?_
        refine vgX11_111 hx hb hT hown hK hM hr0 dcX11_conjugate_105 ?_
        obtain ⟨v16, z15, hcq, hq⟩ := tw_cl1 hq
        refine uw_cali hU hM (va_runV (As := [.ref (u (r0 + 50000))]) (rest := []) ⟨hx, hb, hml, hown, hts⟩ (kc_X10_sameAs l D q vl u hU.1 K (r0 + 48000) (r0 + 50000) (cs_X11_17 hr0) (cs_X11_18 hr0) z13 z15 v16 hcq) (cwV 1 hts (tw_gV2 wT_good wT_C (wT_C _ xq_986) (wT_C _ xq_987) (wT_C _ xq_988) (wT_C _ xq_704) (wT_C _ xq_758)) rfl rfl rfl cdd_X10_sameAs ⟨(Nat.le_of_ble_eq_true rfl), (Nat.le_of_ble_eq_true rfl)⟩) (cw_preV hK hM (co_X10 (cs_X11_17 hr0)) rfl) rfl rfl hl.1 rfl (lv_room (Nat.le_of_ble_eq_true rfl)) dcX11_conjugate_108 ⟨(Nat.le_of_ble_eq_true rfl), (Nat.le_of_ble_eq_true rfl)⟩) (fun H locs hM => ?_)
        refine lv_if_eq (tgt := 118) hx hb dcX11_conjugate_111 (by decide) (fun hc => ?_) (fun hc => ?_)
        · have hq := tw_it hq hc
          refine lv_iconst (v := 0) hx hb dcX11_conjugate_118 (by decide) ?_
          exact ct_iret hx hb hr hlocks hM hq hQQ (Nat.le_of_ble_eq_true rfl) (Nat.le_of_ble_eq_true rfl) dcX11_conjugate_119
        · have hq := tw_if hq hc
          refine lv_iconst (v := 1) hx hb dcX11_conjugate_114 (by decide) ?_
          refine lv_goto (tgt := 119) hx hb dcX11_conjugate_115 (by decide) ?_
          exact ct_iret hx hb hr hlocks hM hq hQQ (Nat.le_of_ble_eq_true rfl) (Nat.le_of_ble_eq_true rfl) dcX11_conjugate_119
      · have hq := tw_it hq hc
        refine lv_bipush (v := (-2)) hx hb dcX11_conjugate_97 (by decide) ?_
        exact ct_iret hx hb hr hlocks hM hq hQQ (Nat.le_of_ble_eq_true rfl) (Nat.le_of_ble_eq_true rfl) dcX11_conjugate_99
  · have hq := tw_if hq hc
    obtain ⟨rfl, h9⟩ := Prod.mk.inj (Option.some.inj hq)
    obtain ⟨rfl, rfl⟩ := Prod.mk.inj h9
    exact ct_throwW (k := 2) (text := "as many strands are needed") (cls := "java/lang/IllegalArgumentException") hx hb hlt hown hex hlocks (by rw [hml]; exact hl.1.symm) hTh (List.mem_of_getElem? (i := 24) rfl) rfl (by decide) (by decide +kernel) (hts _ (List.mem_cons_of_mem _ wT_k2)) (hts _ (List.mem_cons_of_mem _ wT_i2)) (fun w h => hts w (List.mem_cons_of_mem _ (wT_2 w h))) th9_2 tg9_2 hM dcX11_conjugate_25 dcX11_conjugate_28 dcX11_conjugate_29 dcX11_conjugate_32 dcX11_conjugate_35 hQQ (Nat.le_of_ble_eq_true rfl) (Nat.le_of_ble_eq_true rfl) (Nat.le_of_ble_eq_true rfl) (Nat.le_of_ble_eq_true rfl) (Nat.le_of_ble_eq_true rfl) (Nat.le_of_ble_eq_true rfl)
theorem dcX11_two_0 : decode cX11_two 0 = .ok (.aload_n 0, 1) := dw_at cX11_two_k0 (p := 0) rfl (by decide +kernel)
theorem dcX11_two_1 : decode cX11_two 1 = .ok (.iload_n 1, 1) := dw_at cX11_two_k0 (p := 1) rfl (by decide +kernel)
theorem dcX11_two_2 : decode cX11_two 2 = .ok (.invokevirtual 379, 3) := dw_at cX11_two_k0 (p := 2) rfl (by decide +kernel)
theorem dcX11_two_5 : decode cX11_two 5 = .ok (.aload_n 0, 1) := dw_at cX11_two_k0 (p := 5) rfl (by decide +kernel)
theorem dcX11_two_6 : decode cX11_two 6 = .ok (.getfield 87, 3) := dw_at cX11_two_k0 (p := 6) rfl (by decide +kernel)
theorem dcX11_two_9 : decode cX11_two 9 = .ok (.iload_n 1, 1) := dw_at cX11_two_k0 (p := 9) rfl (by decide +kernel)
theorem dcX11_two_10 : decode cX11_two 10 = .ok (.iaload, 1) := dw_at cX11_two_k0 (p := 10) rfl (by decide +kernel)
theorem dcX11_two_11 : decode cX11_two 11 = .ok (.bipush 10, 2) := dw_at cX11_two_k0 (p := 11) rfl (by decide +kernel)
theorem dcX11_two_13 : decode cX11_two 13 = .ok (.if_icmp .le 14, 3) := dw_at cX11_two_k0 (p := 13) rfl (by decide +kernel)
theorem dcX11_two_16 : decode cX11_two 16 = .ok (.new 263, 3) := dw_at cX11_two_k0 (p := 16) rfl (by decide +kernel)
theorem dcX11_two_19 : decode cX11_two 19 = .ok (.dup, 1) := dw_at cX11_two_k0 (p := 19) rfl (by decide +kernel)
theorem dcX11_two_20 : decode cX11_two 20 = .ok (.ldc_w 434, 3) := dw_at cX11_two_k0 (p := 20) rfl (by decide +kernel)
theorem dcX11_two_23 : decode cX11_two 23 = .ok (.invokespecial 267, 3) := dw_at cX11_two_k0 (p := 23) rfl (by decide +kernel)
theorem dcX11_two_26 : decode cX11_two 26 = .ok (.athrow, 1) := dw_at cX11_two_k1 (p := 0) rfl (by decide +kernel)
theorem dcX11_two_27 : decode cX11_two 27 = .ok (.aload_n 0, 1) := dw_at cX11_two_k1 (p := 1) rfl (by decide +kernel)
theorem dcX11_two_28 : decode cX11_two 28 = .ok (.getfield 27, 3) := dw_at cX11_two_k1 (p := 2) rfl (by decide +kernel)
theorem dcX11_two_31 : decode cX11_two 31 = .ok (.aload_n 0, 1) := dw_at cX11_two_k1 (p := 5) rfl (by decide +kernel)
theorem dcX11_two_32 : decode cX11_two 32 = .ok (.getfield 83, 3) := dw_at cX11_two_k1 (p := 6) rfl (by decide +kernel)
theorem dcX11_two_35 : decode cX11_two 35 = .ok (.iload_n 1, 1) := dw_at cX11_two_k1 (p := 9) rfl (by decide +kernel)
theorem dcX11_two_36 : decode cX11_two 36 = .ok (.bipush 16, 2) := dw_at cX11_two_k1 (p := 10) rfl (by decide +kernel)
theorem dcX11_two_38 : decode cX11_two 38 = .ok (.imul, 1) := dw_at cX11_two_k1 (p := 12) rfl (by decide +kernel)
theorem dcX11_two_39 : decode cX11_two 39 = .ok (.aload_n 0, 1) := dw_at cX11_two_k1 (p := 13) rfl (by decide +kernel)
theorem dcX11_two_40 : decode cX11_two 40 = .ok (.getfield 87, 3) := dw_at cX11_two_k1 (p := 14) rfl (by decide +kernel)
theorem dcX11_two_43 : decode cX11_two 43 = .ok (.iload_n 1, 1) := dw_at cX11_two_k1 (p := 17) rfl (by decide +kernel)
theorem dcX11_two_44 : decode cX11_two 44 = .ok (.iaload, 1) := dw_at cX11_two_k1 (p := 18) rfl (by decide +kernel)
theorem dcX11_two_45 : decode cX11_two 45 = .ok (.aload_n 0, 1) := dw_at cX11_two_k1 (p := 19) rfl (by decide +kernel)
theorem dcX11_two_46 : decode cX11_two 46 = .ok (.getfield 91, 3) := dw_at cX11_two_k1 (p := 20) rfl (by decide +kernel)
theorem dcX11_two_49 : decode cX11_two 49 = .ok (.iload_n 1, 1) := dw_at cX11_two_k1 (p := 23) rfl (by decide +kernel)
theorem dcX11_two_50 : decode cX11_two 50 = .ok (.iaload, 1) := dw_at cX11_two_k2 (p := 0) rfl (by decide +kernel)
theorem dcX11_two_51 : decode cX11_two 51 = .ok (.invokevirtual 384, 3) := dw_at cX11_two_k2 (p := 1) rfl (by decide +kernel)
theorem dcX11_two_54 : decode cX11_two 54 = .ok (.aload_n 0, 1) := dw_at cX11_two_k2 (p := 4) rfl (by decide +kernel)
theorem dcX11_two_55 : decode cX11_two 55 = .ok (.getfield 44, 3) := dw_at cX11_two_k2 (p := 5) rfl (by decide +kernel)
theorem dcX11_two_58 : decode cX11_two 58 = .ok (.aload_n 0, 1) := dw_at cX11_two_k2 (p := 8) rfl (by decide +kernel)
theorem dcX11_two_59 : decode cX11_two 59 = .ok (.getfield 27, 3) := dw_at cX11_two_k2 (p := 9) rfl (by decide +kernel)
theorem dcX11_two_62 : decode cX11_two 62 = .ok (.invokevirtual 178, 3) := dw_at cX11_two_k2 (p := 12) rfl (by decide +kernel)
theorem dcX11_two_65 : decode cX11_two 65 = .ok (.aload_n 0, 1) := dw_at cX11_two_k2 (p := 15) rfl (by decide +kernel)
theorem dcX11_two_66 : decode cX11_two 66 = .ok (.getfield 65, 3) := dw_at cX11_two_k2 (p := 16) rfl (by decide +kernel)
theorem dcX11_two_69 : decode cX11_two 69 = .ok (.aload_n 0, 1) := dw_at cX11_two_k2 (p := 19) rfl (by decide +kernel)
theorem dcX11_two_70 : decode cX11_two 70 = .ok (.getfield 44, 3) := dw_at cX11_two_k2 (p := 20) rfl (by decide +kernel)
theorem dcX11_two_73 : decode cX11_two 73 = .ok (.getfield 182, 3) := dw_at cX11_two_k2 (p := 23) rfl (by decide +kernel)
theorem dcX11_two_76 : decode cX11_two 76 = .ok (.iconst 0, 1) := dw_at cX11_two_k3 (p := 0) rfl (by decide +kernel)
theorem dcX11_two_77 : decode cX11_two 77 = .ok (.invokevirtual 329, 3) := dw_at cX11_two_k3 (p := 1) rfl (by decide +kernel)
theorem dcX11_two_80 : decode cX11_two 80 = .ok (.aload_n 0, 1) := dw_at cX11_two_k3 (p := 4) rfl (by decide +kernel)
theorem dcX11_two_81 : decode cX11_two 81 = .ok (.getfield 65, 3) := dw_at cX11_two_k3 (p := 5) rfl (by decide +kernel)
theorem dcX11_two_84 : decode cX11_two 84 = .ok (.iload_n 2, 1) := dw_at cX11_two_k3 (p := 8) rfl (by decide +kernel)
theorem dcX11_two_85 : decode cX11_two 85 = .ok (.iload_n 3, 1) := dw_at cX11_two_k3 (p := 9) rfl (by decide +kernel)
theorem dcX11_two_86 : decode cX11_two 86 = .ok (.invokevirtual 436, 3) := dw_at cX11_two_k3 (p := 10) rfl (by decide +kernel)
theorem dcX11_two_89 : decode cX11_two 89 = .ok (.ireturn, 1) := dw_at cX11_two_k3 (p := 13) rfl (by decide +kernel)
def cm_X11_two_0 (vl : Nat → Nat) (K : Nat) (x1 : Int32) (x2 : Int32) (x3 : Int32) (r0 : Nat) (z : ow_MS) : Option (Nat × Int32 × ow_MS) :=
 tc0 (ce_X11_needBraid vl K r0 x1 z) (fun k z => some (k, 0, z)) fun z1 => crI (cX vl) z1 (r0 + 14) x1 fun v3 => (if v3 ≤ 10 then crI (cX vl) z1 (r0 + 14) x1 fun v4 => crI (cX vl) z1 (r0 + 15) x1 fun v5 => cs0 (ce_X7_close vl K (r0 + 4000) (r0 + 13) (x1 * 16) v4 v5 z1) fun z6 => cs0 (ce_X2_encode vl K (r0 + 7000) (r0 + 4000) z6) fun z7 => cs0 (ce_X8_unfoldCode vl K (r0 + 24000) ((r0 + 7000) + 1000) 0 z7) fun z8 => cs1 (ce_X8_twoAt vl K (r0 + 24000) x2 x3 z8) fun v10 z9 => some (0, v10, z9)
 else some (4, 0, z1))
def ce_X11_two (vl : Nat → Nat) (K : Nat) (r0 : Nat) (x1 : Int32) (x2 : Int32) (x3 : Int32) (z : ow_MS) : Option (Nat × Int32 × ow_MS) := cm_X11_two_0 vl K x1 x2 x3 r0 z
abbrev wc_X11_two : List Cond := .code yX11_two cX11_two 4 (some .int) :: wT
theorem cdd_X11_two : yX11_two.cls = RX11 ∧ yX11_two.cls ≠ "java/lang/invoke/MethodHandle" ∧ yX11_two.cls ≠ "java/lang/invoke/VarHandle" ∧ (parseMethodDescriptor yX11_two.desc).map (fun d => d.parameters.length) = some 3 := by decide +kernel
set_option maxHeartbeats 4000000 in
set_option maxRecDepth 100000 in
theorem kc_X11_two (l : Launch) (D : va_G) (q : Nat → ClassId) (vl u : Nat → Nat) (hU0 : tw_inj (cX vl) u) (hlt : l.stackTraces = false) (sa : Nat → Nat) (K : Nat) (r0 : Nat) (x1 : Int32) (x2 : Int32) (x3 : Int32) (hr0 : cw_X11 r0) (z z1 : ow_MS) (k9 : Nat) (r : Int32) (hq : ce_X11_two vl K r0 x1 x2 x3 z = some (k9, r, z1)) : vx_Met l yX11_two wc_X11_two ({ frames := 21, cells := 2, slots := 12, locals := 668 } : Room) (va_Pc [.ref (u r0), .int x1, .int x2, .int x3] (cw_preT D q vl u sa z)) (va_Qi (fun x (_ : Unit) => k9 = 0 ∧ x = r) (fun _ t => va_P D vwCl (uw (cX vl) q u z1) t.heap) (tw_A (cX vl) u)) (ct_X D q vl u k9 z1) 2 12 (tw_A (cX vl) u) := by
  refine vx_ofW (cc := cX11_two) (maxL := 4) (ret := (some .int)) (by decide) rfl ?_
  intro p e s m args below meth c s₁ B hml hex hv
  obtain ⟨rfl, hP, hK, hTh⟩ := hv
  have hx := B.exec
  have hb := B.bytes
  have hr := B.returns
  have hts := atoms_spec (ws := wc_X11_two) B.pre
  have hT : ∀ w ∈ wC, w.before ([.ref (u r0), .int x1, .int x2, .int x3] : List Value).toArray s = true := fun w h => hts w (List.mem_cons_of_mem _ (wT_C w h))
  have hown : s.vm.findClass RX11 = some m.cls := findClass_of_methodNamed B.named
  have hlocks := B.notSynchronized
  have hU : uw_inj (cX vl) u (tw_A (cX vl) u) := ⟨hU0, fun h hh => ⟨h, hh, rfl⟩⟩
  have hM : uw_M D vwCl (cX vl) q (tw_A (cX vl) u) s.heap u z s.heap [] := ⟨hP, va_S.rf⟩
  have hl := lv_entry ([.ref (u r0), .int x1, .int x2, .int x3]) (n := 4) (Nat.le_of_ble_eq_true rfl)
  rw [lg_entry_eq]
  generalize (lg_sl ([.ref (u r0), .int x1, .int x2, .int x3]) ++ List.replicate (4 - (lg_sl ([.ref (u r0), .int x1, .int x2, .int x3])).length) Slot.unset).toArray = ls at hl ⊢
  have hl : lv_has ls 4 [(0, .ref (u r0)), (1, .int x1), (2, .int x2), (3, .int x3)] := hl
  refine ow_named (fun QQ hQQ => ?_)
  generalize ([.ref (u r0), .int x1, .int x2, .int x3] : List Value).toArray = args at hts hT hQQ ⊢
  have hq : cm_X11_two_0 vl K x1 x2 x3 r0 z = some (k9, r, z1) := hq
  unfold cm_X11_two_0 at hq
  suffices key : ∀ (H : Heap) (locs : List Loc), uw_M D vwCl (cX vl) q (tw_A (cX vl) u) s.heap u z H locs → W p l e ({ frames := 21, cells := 2, slots := 12, locals := 668 } : Room) s m args below meth c H locs 0 0 QQ (F0 m 0 ls []) from key s.heap [] hM
  intro H locs hM
  refine lv_aload_n hx hb dcX11_two_0 rfl (lv_at hl 0 rfl) ?_
  refine lv_iload_n hx hb dcX11_two_1 rfl (lv_at hl 1 rfl) ?_
  obtain ⟨k2, z1, hcq, hq⟩ := ct_tc0 hq
  refine ct_calv hU hM (vx_runV (As := [.int x1]) (rest := []) ⟨hx, hb, hml, hown, hts⟩ (kc_X11_needBraid l D q vl u hU.1 hlt sa K r0 x1 hr0 z z1 k2 hcq) (cwV 1 hts (tw_gV2 wT_good (fun _ h => h) (wT_C _ xq_946) (wT_C _ xq_947) (wT_C _ xq_948) (wT_C _ xq_773) (wT_C _ xq_811)) rfl rfl rfl cdd_X11_needBraid ⟨(Nat.le_of_ble_eq_true rfl), (Nat.le_of_ble_eq_true rfl)⟩) (ct_preV hK hTh hM (co_X11 hr0) rfl) rfl rfl hl.1 rfl (lv_room (Nat.le_of_ble_eq_true rfl)) dcX11_two_2 ⟨(Nat.le_of_ble_eq_true rfl), (Nat.le_of_ble_eq_true rfl)⟩) (fun E ce q9 H locs hk hE hM hce hcv hcl => ?_) (fun H locs hk hM => ?_)
  · have hq := tw_if hq hk
    obtain ⟨rfl, h9⟩ := Prod.mk.inj (Option.some.inj hq)
    obtain ⟨rfl, rfl⟩ := Prod.mk.inj h9
    exact ct_out hex hlocks hk hE hM hce hcv hcl hQQ (Nat.le_of_ble_eq_true rfl) (Nat.le_of_ble_eq_true rfl)
  have hq := tw_it hq hk
  refine lv_aload_n hx hb dcX11_two_5 rfl (lv_at hl 0 rfl) ?_
  refine vgX11_87 hx hb hT hown hK hM hr0 dcX11_two_6 ?_
  refine lv_iload_n hx hb dcX11_two_9 rfl (lv_at hl 1 rfl) ?_
  refine uw_iald cX_ok hx hb hK hM (cr_X11_13 hr0) hq dcX11_two_10 (fun v3 hq => ?_)
  refine lv_bipush (v := 10) hx hb dcX11_two_11 (by decide) ?_
  refine lv_icmp_le (tgt := 27) hx hb dcX11_two_13 (by decide) (fun hc => ?_) (fun hc => ?_)
  · have hq := tw_it hq hc
    refine lv_aload_n hx hb dcX11_two_27 rfl (lv_at hl 0 rfl) ?_
    refine vgX11_27 hx hb hT hown hK hM hr0 dcX11_two_28 ?_
    refine lv_aload_n hx hb dcX11_two_31 rfl (lv_at hl 0 rfl) ?_
    refine vgX11_83 hx hb hT hown hK hM hr0 dcX11_two_32 ?_
    refine lv_iload_n hx hb dcX11_two_35 rfl (lv_at hl 1 rfl) ?_
    refine lv_bipush (v := 16) hx hb dcX11_two_36 (by decide) ?_
    refine lv_imul hx hb dcX11_two_38 ?_
    refine lv_aload_n hx hb dcX11_two_39 rfl (lv_at hl 0 rfl) ?_
    refine vgX11_87 hx hb hT hown hK hM hr0 dcX11_two_40 ?_
    refine lv_iload_n hx hb dcX11_two_43 rfl (lv_at hl 1 rfl) ?_
    refine uw_iald cX_ok hx hb hK hM (cr_X11_13 hr0) hq dcX11_two_44 (fun v4 hq => ?_)
    refine lv_aload_n hx hb dcX11_two_45 rfl (lv_at hl 0 rfl) ?_
    refine vgX11_91 hx hb hT hown hK hM hr0 dcX11_two_46 ?_
    refine lv_iload_n hx hb dcX11_two_49 rfl (lv_at hl 1 rfl) ?_
    refine uw_iald cX_ok hx hb hK hM (cr_X11_14 hr0) hq dcX11_two_50 (fun v5 hq => ?_)
    obtain ⟨z6, hcq, hq⟩ := tw_cl0 hq
    refine uw_calv hU hM (va_runV (As := [.ref (u (r0 + 13)), .int (x1 * 16), .int v4, .int v5]) (rest := []) ⟨hx, hb, hml, hown, hts⟩ (kc_X7_close l D q vl u hU.1 K (r0 + 4000) (r0 + 13) (x1 * 16) v4 v5 (cs_X11_3 hr0) (cr_X11_12 hr0) z1 z6 hcq) (cwV 4 hts (tw_gV2 wT_good wT_C (wT_C _ xq_949) (wT_C _ xq_950) (wT_C _ xq_951) (wT_C _ xq_54) (wT_C _ xq_597)) rfl rfl rfl cdd_X7_close ⟨(Nat.le_of_ble_eq_true rfl), (Nat.le_of_ble_eq_true rfl)⟩) (cw_preV hK hM (co_X7 (cs_X11_3 hr0)) rfl) rfl rfl hl.1 rfl (lv_room (Nat.le_of_ble_eq_true rfl)) dcX11_two_51 ⟨(Nat.le_of_ble_eq_true rfl), (Nat.le_of_ble_eq_true rfl)⟩) (fun H locs hM => ?_)
    refine lv_aload_n hx hb dcX11_two_54 rfl (lv_at hl 0 rfl) ?_
    refine vgX11_44 hx hb hT hown hK hM hr0 dcX11_two_55 ?_
    refine lv_aload_n hx hb dcX11_two_58 rfl (lv_at hl 0 rfl) ?_
    refine vgX11_27 hx hb hT hown hK hM hr0 dcX11_two_59 ?_
    obtain ⟨z7, hcq, hq⟩ := tw_cl0 hq
    refine uw_calv hU hM (va_runV (As := [.ref (u (r0 + 4000))]) (rest := []) ⟨hx, hb, hml, hown, hts⟩ (kc_X2_encode l D q vl u hU.1 K (r0 + 7000) (r0 + 4000) (cs_X11_6 hr0) (cs_X11_3 hr0) z6 z7 hcq) (cwV 1 hts (tw_gV2 wT_good wT_C (wT_C _ xq_787) (wT_C _ xq_554) (wT_C _ xq_555) (wT_C _ xq_283) (wT_C _ xq_334)) rfl rfl rfl cdd_X2_encode ⟨(Nat.le_of_ble_eq_true rfl), (Nat.le_of_ble_eq_true rfl)⟩) (cw_preV hK hM (co_X2 (cs_X11_6 hr0)) rfl) rfl rfl hl.1 rfl (lv_room (Nat.le_of_ble_eq_true rfl)) dcX11_two_62 ⟨(Nat.le_of_ble_eq_true rfl), (Nat.le_of_ble_eq_true rfl)⟩) (fun H locs hM => ?_)
    refine lv_aload_n hx hb dcX11_two_65 rfl (lv_at hl 0 rfl) ?_
    refine vgX11_65 hx hb hT hown hK hM hr0 dcX11_two_66 ?_
    refine lv_aload_n hx hb dcX11_two_69 rfl (lv_at hl 0 rfl) ?_
    refine vgX11_44 hx hb hT hown hK hM hr0 dcX11_two_70 ?_
    refine vgX11_182 hx hb hT hown hK hM (cs_X11_6 hr0) dcX11_two_73 ?_
    refine lv_iconst (v := 0) hx hb dcX11_two_76 (by decide) ?_
    obtain ⟨z8, hcq, hq⟩ := tw_cl0 hq
    refine uw_calv hU hM (va_runV (As := [.ref (u ((r0 + 7000) + 1000)), .int 0]) (rest := []) ⟨hx, hb, hml, hown, hts⟩ (kc_X8_unfoldCode l D q vl u hU.1 K (r0 + 24000) ((r0 + 7000) + 1000) 0 (cs_X11_9 hr0) (cs_X2_0 (cs_X11_6 hr0)) z7 z8 hcq) (cwV 2 hts (tw_gV2 wT_good wT_C (wT_C _ xq_900) (wT_C _ xq_901) (wT_C _ xq_902) (wT_C _ xq_609) (wT_C _ xq_639)) rfl rfl rfl cdd_X8_unfoldCode ⟨(Nat.le_of_ble_eq_true rfl), (Nat.le_of_ble_eq_true rfl)⟩) (cw_preV hK hM (co_X8 (cs_X11_9 hr0)) rfl) rfl rfl hl.1 rfl (lv_room (Nat.le_of_ble_eq_true rfl)) dcX11_two_77 ⟨(Nat.le_of_ble_eq_true rfl), (Nat.le_of_ble_eq_true rfl)⟩) (fun H locs hM => ?_)
    refine lv_aload_n hx hb dcX11_two_80 rfl (lv_at hl 0 rfl) ?_
    refine vgX11_65 hx hb hT hown hK hM hr0 dcX11_two_81 ?_
    refine lv_iload_n hx hb dcX11_two_84 rfl (lv_at hl 2 rfl) ?_
    refine lv_iload_n hx hb dcX11_two_85 rfl (lv_at hl 3 rfl) ?_
    obtain ⟨v10, z9, hcq, hq⟩ := tw_cl1 hq
    refine uw_cali hU hM (va_runV (As := [.int x2, .int x3]) (rest := []) ⟨hx, hb, hml, hown, hts⟩ (kc_X8_twoAt l D q vl u hU.1 K (r0 + 24000) x2 x3 (cs_X11_9 hr0) z8 z9 v10 hcq) (cwV 2 hts (tw_gV2 wT_good wT_C (wT_C _ xq_990) (wT_C _ xq_991) (wT_C _ xq_992) (wT_C _ xq_609) (wT_C _ xq_641)) rfl rfl rfl cdd_X8_twoAt ⟨(Nat.le_of_ble_eq_true rfl), (Nat.le_of_ble_eq_true rfl)⟩) (cw_preV hK hM (co_X8 (cs_X11_9 hr0)) rfl) rfl rfl hl.1 rfl (lv_room (Nat.le_of_ble_eq_true rfl)) dcX11_two_86 ⟨(Nat.le_of_ble_eq_true rfl), (Nat.le_of_ble_eq_true rfl)⟩) (fun H locs hM => ?_)
    exact ct_iret hx hb hr hlocks hM hq hQQ (Nat.le_of_ble_eq_true rfl) (Nat.le_of_ble_eq_true rfl) dcX11_two_89
  · have hq := tw_if hq hc
    obtain ⟨rfl, h9⟩ := Prod.mk.inj (Option.some.inj hq)
    obtain ⟨rfl, rfl⟩ := Prod.mk.inj h9
    exact ct_throwW (k := 4) (text := "more than 10 letters") (cls := "java/lang/UnsupportedOperationException") hx hb hlt hown hex hlocks (by rw [hml]; exact hl.1.symm) hTh (List.mem_of_getElem? (i := 28) rfl) rfl (by decide) (by decide +kernel) (hts _ (List.mem_cons_of_mem _ wT_k4)) (hts _ (List.mem_cons_of_mem _ wT_i4)) (fun w h => hts w (List.mem_cons_of_mem _ (wT_4 w h))) th9_4 tg9_4 hM dcX11_two_16 dcX11_two_19 dcX11_two_20 dcX11_two_23 dcX11_two_26 hQQ (Nat.le_of_ble_eq_true rfl) (Nat.le_of_ble_eq_true rfl) (Nat.le_of_ble_eq_true rfl) (Nat.le_of_ble_eq_true rfl) (Nat.le_of_ble_eq_true rfl) (Nat.le_of_ble_eq_true rfl)
