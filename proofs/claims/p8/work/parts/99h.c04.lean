theorem dcX4_isPlane_0 : decode cX4_isPlane 0 = .ok (.aload_n 1, 1) := by decide +kernel
theorem dcX4_isPlane_1 : decode cX4_isPlane 1 = .ok (.invokevirtual 62, 3) := by decide +kernel
theorem dcX4_isPlane_4 : decode cX4_isPlane 4 = .ok (.aload_n 0, 1) := by decide +kernel
theorem dcX4_isPlane_5 : decode cX4_isPlane 5 = .ok (.aload_n 1, 1) := by decide +kernel
theorem dcX4_isPlane_6 : decode cX4_isPlane 6 = .ok (.invokevirtual 65, 3) := by decide +kernel
theorem dcX4_isPlane_9 : decode cX4_isPlane 9 = .ok (.aload_n 0, 1) := by decide +kernel
theorem dcX4_isPlane_10 : decode cX4_isPlane 10 = .ok (.getfield 55, 3) := by decide +kernel
theorem dcX4_isPlane_13 : decode cX4_isPlane 13 = .ok (.aload_n 1, 1) := by decide +kernel
theorem dcX4_isPlane_14 : decode cX4_isPlane 14 = .ok (.getfield 45, 3) := by decide +kernel
theorem dcX4_isPlane_17 : decode cX4_isPlane 17 = .ok (.iconst 2, 1) := by decide +kernel
theorem dcX4_isPlane_18 : decode cX4_isPlane 18 = .ok (.aload_n 1, 1) := by decide +kernel
theorem dcX4_isPlane_19 : decode cX4_isPlane 19 = .ok (.getfield 69, 3) := by decide +kernel
theorem dcX4_isPlane_22 : decode cX4_isPlane 22 = .ok (.imul, 1) := by decide +kernel
theorem dcX4_isPlane_23 : decode cX4_isPlane 23 = .ok (.iadd, 1) := by decide +kernel
theorem dcX4_isPlane_24 : decode cX4_isPlane 24 = .ok (.if_icmp .ne 7, 3) := by decide +kernel
theorem dcX4_isPlane_27 : decode cX4_isPlane 27 = .ok (.iconst 1, 1) := by decide +kernel
theorem dcX4_isPlane_28 : decode cX4_isPlane 28 = .ok (.goto 4, 3) := by decide +kernel
theorem dcX4_isPlane_31 : decode cX4_isPlane 31 = .ok (.iconst 0, 1) := by decide +kernel
theorem dcX4_isPlane_32 : decode cX4_isPlane 32 = .ok (.ireturn, 1) := by decide +kernel
def cm_X4_isPlane_0 (vl : Nat → Nat) (K : Nat) (r0 : Nat) (r1 : Nat) (z : ow_MS) : Option (Int32 × ow_MS) :=
 cs0 (ce_X7_markParts vl K r1 z) fun z1 => cs0 (ce_X4_mark vl K r0 r1 z1) fun z2 => rdF z2 (r0 + 2) fun v3 => rdF z2 (r1 + 8) fun v4 => rdF z2 (r1 + 11) fun v5 => (if v3 = (v4 + (2 * v5)) then okZ 1 (some (1, z2))
 else okZ 0 (some (0, z2)))
def ce_X4_isPlane (vl : Nat → Nat) (K : Nat) (r0 : Nat) (r1 : Nat) (z : ow_MS) : Option (Int32 × ow_MS) := cm_X4_isPlane_0 vl K r0 r1 z
abbrev wc_X4_isPlane : List Cond := .code yX4_isPlane cX4_isPlane 2 (some .boolean) :: wC
theorem cdd_X4_isPlane : yX4_isPlane.cls = RX4 ∧ yX4_isPlane.cls ≠ "java/lang/invoke/MethodHandle" ∧ yX4_isPlane.cls ≠ "java/lang/invoke/VarHandle" ∧ (parseMethodDescriptor yX4_isPlane.desc).map (fun d => d.parameters.length) = some 1 := by decide +kernel
set_option maxHeartbeats 4000000 in
set_option maxRecDepth 100000 in
theorem kc_X4_isPlane (l : Launch) (D : va_G) (q : Nat → ClassId) (vl u : Nat → Nat) (hU0 : tw_inj (cX vl) u) (K : Nat) (r0 : Nat) (r1 : Nat) (hr0 : cw_X4 r0) (hr1 : cw_X7 r1) (z z1 : ow_MS) (r : Int32) (hq : ce_X4_isPlane vl K r0 r1 z = some (r, z1)) : Met l yX4_isPlane wc_X4_isPlane ({ frames := 3, cells := 0, slots := 0, locals := 72 } : Room) (va_Pc [.ref (u r0), .ref (u r1)] (cw_pre D q vl u z)) (va_Qi (fun x (_ : Unit) => x = r) (fun _ t => va_P D vwCl (uw (cX vl) q u z1) t.heap) (tw_A (cX vl) u)) 0 0 (tw_A (cX vl) u) := by
  refine Met.ofW (cc := cX4_isPlane) (maxL := 2) (ret := (some .boolean)) (by decide) rfl ?_
  intro p e s m args below meth c s₁ B hml hv
  obtain ⟨rfl, hP, hK⟩ := hv
  have hx := B.exec
  have hb := B.bytes
  have hr := B.returns
  have hts := atoms_spec (ws := wc_X4_isPlane) B.pre
  have hT : ∀ w ∈ wC, w.before ([.ref (u r0), .ref (u r1)] : List Value).toArray s = true := fun w h => hts w (List.mem_cons_of_mem _ h)
  have hown : s.vm.findClass RX4 = some m.cls := findClass_of_methodNamed B.named
  have hlocks := B.notSynchronized
  have hU : uw_inj (cX vl) u (tw_A (cX vl) u) := ⟨hU0, fun h hh => ⟨h, hh, rfl⟩⟩
  have hM : uw_M D vwCl (cX vl) q (tw_A (cX vl) u) s.heap u z s.heap [] := ⟨hP, va_S.rf⟩
  have hl := lv_entry ([.ref (u r0), .ref (u r1)]) (n := 2) (Nat.le_of_ble_eq_true rfl)
  rw [lg_entry_eq]
  generalize (lg_sl ([.ref (u r0), .ref (u r1)]) ++ List.replicate (2 - (lg_sl ([.ref (u r0), .ref (u r1)])).length) Slot.unset).toArray = ls at hl ⊢
  have hl : lv_has ls 2 [(0, .ref (u r0)), (1, .ref (u r1))] := hl
  refine ow_named (fun QQ hQQ => ?_)
  generalize ([.ref (u r0), .ref (u r1)] : List Value).toArray = args at hts hT hQQ ⊢
  have hq : cm_X4_isPlane_0 vl K r0 r1 z = some (r, z1) := hq
  unfold cm_X4_isPlane_0 at hq
  suffices key : ∀ (H : Heap) (locs : List Loc), uw_M D vwCl (cX vl) q (tw_A (cX vl) u) s.heap u z H locs → W p l e ({ frames := 3, cells := 0, slots := 0, locals := 72 } : Room) s m args below meth c H locs 0 0 QQ (F0 m 0 ls []) from key s.heap [] hM
  intro H locs hM
  refine lv_aload_n hx hb dcX4_isPlane_0 rfl (lv_at hl 1 rfl) ?_
  obtain ⟨z1, hcq, hq⟩ := tw_cl0 hq
  refine uw_calv hU hM (va_runV (As := []) (rest := []) ⟨hx, hb, hml, hown, hts⟩ (kc_X7_markParts l D q vl u hU.1 K r1 hr1 z z1 hcq) (cwV 0 hts (tw_gV wC_good xq_353 xq_52 xq_53 xq_54 xq_55) rfl rfl rfl cdd_X7_markParts ⟨(Nat.le_of_ble_eq_true rfl), (Nat.le_of_ble_eq_true rfl)⟩) (cw_preV hK hM (co_X7 hr1) rfl) rfl rfl hl.1 rfl (lv_room (Nat.le_of_ble_eq_true rfl)) dcX4_isPlane_1 ⟨(Nat.le_of_ble_eq_true rfl), (Nat.le_of_ble_eq_true rfl)⟩) (fun H locs hM => ?_)
  refine lv_aload_n hx hb dcX4_isPlane_4 rfl (lv_at hl 0 rfl) ?_
  refine lv_aload_n hx hb dcX4_isPlane_5 rfl (lv_at hl 1 rfl) ?_
  obtain ⟨z2, hcq, hq⟩ := tw_cl0 hq
  refine uw_calv hU hM (va_runV (As := [.ref (u r1)]) (rest := []) ⟨hx, hb, hml, hown, hts⟩ (kc_X4_mark l D q vl u hU.1 K r0 r1 hr0 hr1 z1 z2 hcq) (cwV 1 hts (tw_gV wC_good xq_354 xq_355 xq_356 xq_350 xq_351) rfl rfl rfl cdd_X4_mark ⟨(Nat.le_of_ble_eq_true rfl), (Nat.le_of_ble_eq_true rfl)⟩) (cw_preV hK hM (co_X4 hr0) rfl) rfl rfl hl.1 rfl (lv_room (Nat.le_of_ble_eq_true rfl)) dcX4_isPlane_6 ⟨(Nat.le_of_ble_eq_true rfl), (Nat.le_of_ble_eq_true rfl)⟩) (fun H locs hM => ?_)
  refine lv_aload_n hx hb dcX4_isPlane_9 rfl (lv_at hl 0 rfl) ?_
  refine vgX4_55 hx hb hT hown hK hM hr0 hq dcX4_isPlane_10 (fun v3 hq => ?_)
  refine lv_aload_n hx hb dcX4_isPlane_13 rfl (lv_at hl 1 rfl) ?_
  refine vgX4_45 hx hb hT hown hK hM hr1 hq dcX4_isPlane_14 (fun v4 hq => ?_)
  refine lv_iconst (v := 2) hx hb dcX4_isPlane_17 (by decide) ?_
  refine lv_aload_n hx hb dcX4_isPlane_18 rfl (lv_at hl 1 rfl) ?_
  refine vgX4_69 hx hb hT hown hK hM hr1 hq dcX4_isPlane_19 (fun v5 hq => ?_)
  refine lv_imul hx hb dcX4_isPlane_22 ?_
  refine lv_iadd hx hb dcX4_isPlane_23 ?_
  refine lv_icmp_ne (tgt := 31) hx hb dcX4_isPlane_24 (by decide) (fun hc => ?_) (fun hc => ?_)
  · have hq := tw_if hq hc
    refine lv_iconst (v := 0) hx hb dcX4_isPlane_31 (by decide) ?_
    obtain ⟨hz, hq⟩ := tw_gZ hq
    exact cw_zret hx hb hr hlocks hM hz hq hQQ dcX4_isPlane_32
  · have hq := tw_it hq hc
    refine lv_iconst (v := 1) hx hb dcX4_isPlane_27 (by decide) ?_
    refine lv_goto (tgt := 32) hx hb dcX4_isPlane_28 (by decide) ?_
    obtain ⟨hz, hq⟩ := tw_gZ hq
    exact cw_zret hx hb hr hlocks hM hz hq hQQ dcX4_isPlane_32
theorem dcX4_paint_0 : decode cX4_paint 0 = .ok (.iconst 0, 1) := dw_at cX4_paint_k0 (p := 0) rfl (by decide +kernel)
theorem dcX4_paint_1 : decode cX4_paint 1 = .ok (.istore_n 3, 1) := dw_at cX4_paint_k0 (p := 1) rfl (by decide +kernel)
theorem dcX4_paint_2 : decode cX4_paint 2 = .ok (.iconst 1, 1) := dw_at cX4_paint_k0 (p := 2) rfl (by decide +kernel)
theorem dcX4_paint_3 : decode cX4_paint 3 = .ok (.istore 4, 2) := dw_at cX4_paint_k0 (p := 3) rfl (by decide +kernel)
theorem dcX4_paint_5 : decode cX4_paint 5 = .ok (.iconst 0, 1) := dw_at cX4_paint_k0 (p := 5) rfl (by decide +kernel)
theorem dcX4_paint_6 : decode cX4_paint 6 = .ok (.istore 5, 2) := dw_at cX4_paint_k0 (p := 6) rfl (by decide +kernel)
theorem dcX4_paint_8 : decode cX4_paint 8 = .ok (.iload 5, 2) := dw_at cX4_paint_k0 (p := 8) rfl (by decide +kernel)
theorem dcX4_paint_10 : decode cX4_paint 10 = .ok (.bipush 48, 2) := dw_at cX4_paint_k0 (p := 10) rfl (by decide +kernel)
theorem dcX4_paint_12 : decode cX4_paint 12 = .ok (.if_icmp .ge 174, 3) := dw_at cX4_paint_k0 (p := 12) rfl (by decide +kernel)
theorem dcX4_paint_15 : decode cX4_paint 15 = .ok (.iload 4, 2) := dw_at cX4_paint_k0 (p := 15) rfl (by decide +kernel)
theorem dcX4_paint_17 : decode cX4_paint 17 = .ok (.ifCond .eq 169, 3) := dw_at cX4_paint_k0 (p := 17) rfl (by decide +kernel)
theorem dcX4_paint_20 : decode cX4_paint 20 = .ok (.iconst 0, 1) := dw_at cX4_paint_k0 (p := 20) rfl (by decide +kernel)
theorem dcX4_paint_21 : decode cX4_paint 21 = .ok (.istore 4, 2) := dw_at cX4_paint_k0 (p := 21) rfl (by decide +kernel)
theorem dcX4_paint_23 : decode cX4_paint 23 = .ok (.iconst 0, 1) := dw_at cX4_paint_k0 (p := 23) rfl (by decide +kernel)
theorem dcX4_paint_24 : decode cX4_paint 24 = .ok (.istore 6, 2) := dw_at cX4_paint_k1 (p := 0) rfl (by decide +kernel)
theorem dcX4_paint_26 : decode cX4_paint 26 = .ok (.iload 6, 2) := dw_at cX4_paint_k1 (p := 2) rfl (by decide +kernel)
theorem dcX4_paint_28 : decode cX4_paint 28 = .ok (.iconst 2, 1) := dw_at cX4_paint_k1 (p := 4) rfl (by decide +kernel)
theorem dcX4_paint_29 : decode cX4_paint 29 = .ok (.aload_n 1, 1) := dw_at cX4_paint_k1 (p := 5) rfl (by decide +kernel)
theorem dcX4_paint_30 : decode cX4_paint 30 = .ok (.getfield 45, 3) := dw_at cX4_paint_k1 (p := 6) rfl (by decide +kernel)
theorem dcX4_paint_33 : decode cX4_paint 33 = .ok (.imul, 1) := dw_at cX4_paint_k1 (p := 9) rfl (by decide +kernel)
theorem dcX4_paint_34 : decode cX4_paint 34 = .ok (.if_icmp .ge 146, 3) := dw_at cX4_paint_k1 (p := 10) rfl (by decide +kernel)
theorem dcX4_paint_37 : decode cX4_paint 37 = .ok (.aload_n 1, 1) := dw_at cX4_paint_k1 (p := 13) rfl (by decide +kernel)
theorem dcX4_paint_38 : decode cX4_paint 38 = .ok (.getfield 83, 3) := dw_at cX4_paint_k1 (p := 14) rfl (by decide +kernel)
theorem dcX4_paint_41 : decode cX4_paint 41 = .ok (.iload 6, 2) := dw_at cX4_paint_k1 (p := 17) rfl (by decide +kernel)
theorem dcX4_paint_43 : decode cX4_paint 43 = .ok (.iaload, 1) := dw_at cX4_paint_k1 (p := 19) rfl (by decide +kernel)
theorem dcX4_paint_44 : decode cX4_paint 44 = .ok (.iload_n 2, 1) := dw_at cX4_paint_k1 (p := 20) rfl (by decide +kernel)
theorem dcX4_paint_45 : decode cX4_paint 45 = .ok (.if_icmp .eq 6, 3) := dw_at cX4_paint_k1 (p := 21) rfl (by decide +kernel)
theorem dcX4_paint_48 : decode cX4_paint 48 = .ok (.goto 126, 3) := dw_at cX4_paint_k2 (p := 0) rfl (by decide +kernel)
theorem dcX4_paint_51 : decode cX4_paint 51 = .ok (.aload_n 0, 1) := dw_at cX4_paint_k2 (p := 3) rfl (by decide +kernel)
theorem dcX4_paint_52 : decode cX4_paint 52 = .ok (.getfield 9, 3) := dw_at cX4_paint_k2 (p := 4) rfl (by decide +kernel)
theorem dcX4_paint_55 : decode cX4_paint 55 = .ok (.iconst 2, 1) := dw_at cX4_paint_k2 (p := 7) rfl (by decide +kernel)
theorem dcX4_paint_56 : decode cX4_paint 56 = .ok (.iload 6, 2) := dw_at cX4_paint_k2 (p := 8) rfl (by decide +kernel)
theorem dcX4_paint_58 : decode cX4_paint 58 = .ok (.imul, 1) := dw_at cX4_paint_k2 (p := 10) rfl (by decide +kernel)
theorem dcX4_paint_59 : decode cX4_paint 59 = .ok (.iaload, 1) := dw_at cX4_paint_k2 (p := 11) rfl (by decide +kernel)
theorem dcX4_paint_60 : decode cX4_paint 60 = .ok (.istore 7, 2) := dw_at cX4_paint_k2 (p := 12) rfl (by decide +kernel)
theorem dcX4_paint_62 : decode cX4_paint 62 = .ok (.aload_n 0, 1) := dw_at cX4_paint_k2 (p := 14) rfl (by decide +kernel)
theorem dcX4_paint_63 : decode cX4_paint 63 = .ok (.getfield 9, 3) := dw_at cX4_paint_k2 (p := 15) rfl (by decide +kernel)
theorem dcX4_paint_66 : decode cX4_paint 66 = .ok (.iconst 2, 1) := dw_at cX4_paint_k2 (p := 18) rfl (by decide +kernel)
theorem dcX4_paint_67 : decode cX4_paint 67 = .ok (.iload 6, 2) := dw_at cX4_paint_k2 (p := 19) rfl (by decide +kernel)
theorem dcX4_paint_69 : decode cX4_paint 69 = .ok (.imul, 1) := dw_at cX4_paint_k2 (p := 21) rfl (by decide +kernel)
theorem dcX4_paint_70 : decode cX4_paint 70 = .ok (.iconst 1, 1) := dw_at cX4_paint_k2 (p := 22) rfl (by decide +kernel)
theorem dcX4_paint_71 : decode cX4_paint 71 = .ok (.iadd, 1) := dw_at cX4_paint_k2 (p := 23) rfl (by decide +kernel)
theorem dcX4_paint_72 : decode cX4_paint 72 = .ok (.iaload, 1) := dw_at cX4_paint_k3 (p := 0) rfl (by decide +kernel)
theorem dcX4_paint_73 : decode cX4_paint 73 = .ok (.istore 8, 2) := dw_at cX4_paint_k3 (p := 1) rfl (by decide +kernel)
theorem dcX4_paint_75 : decode cX4_paint 75 = .ok (.iload_n 3, 1) := dw_at cX4_paint_k3 (p := 3) rfl (by decide +kernel)
theorem dcX4_paint_76 : decode cX4_paint 76 = .ok (.ifCond .ne 13, 3) := dw_at cX4_paint_k3 (p := 4) rfl (by decide +kernel)
theorem dcX4_paint_79 : decode cX4_paint 79 = .ok (.aload_n 0, 1) := dw_at cX4_paint_k3 (p := 7) rfl (by decide +kernel)
theorem dcX4_paint_80 : decode cX4_paint 80 = .ok (.getfield 15, 3) := dw_at cX4_paint_k3 (p := 8) rfl (by decide +kernel)
theorem dcX4_paint_83 : decode cX4_paint 83 = .ok (.iload 7, 2) := dw_at cX4_paint_k3 (p := 11) rfl (by decide +kernel)
theorem dcX4_paint_85 : decode cX4_paint 85 = .ok (.iconst 0, 1) := dw_at cX4_paint_k3 (p := 13) rfl (by decide +kernel)
theorem dcX4_paint_86 : decode cX4_paint 86 = .ok (.iastore, 1) := dw_at cX4_paint_k3 (p := 14) rfl (by decide +kernel)
theorem dcX4_paint_87 : decode cX4_paint 87 = .ok (.iconst 1, 1) := dw_at cX4_paint_k3 (p := 15) rfl (by decide +kernel)
theorem dcX4_paint_88 : decode cX4_paint 88 = .ok (.istore_n 3, 1) := dw_at cX4_paint_k3 (p := 16) rfl (by decide +kernel)
theorem dcX4_paint_89 : decode cX4_paint 89 = .ok (.aload_n 0, 1) := dw_at cX4_paint_k3 (p := 17) rfl (by decide +kernel)
theorem dcX4_paint_90 : decode cX4_paint 90 = .ok (.getfield 15, 3) := dw_at cX4_paint_k3 (p := 18) rfl (by decide +kernel)
theorem dcX4_paint_93 : decode cX4_paint 93 = .ok (.iload 7, 2) := dw_at cX4_paint_k3 (p := 21) rfl (by decide +kernel)
theorem dcX4_paint_95 : decode cX4_paint 95 = .ok (.iaload, 1) := dw_at cX4_paint_k3 (p := 23) rfl (by decide +kernel)
theorem dcX4_paint_96 : decode cX4_paint 96 = .ok (.iconst (-1), 1) := dw_at cX4_paint_k4 (p := 0) rfl (by decide +kernel)
theorem dcX4_paint_97 : decode cX4_paint 97 = .ok (.if_icmp .eq 36, 3) := dw_at cX4_paint_k4 (p := 1) rfl (by decide +kernel)
theorem dcX4_paint_100 : decode cX4_paint 100 = .ok (.aload_n 0, 1) := dw_at cX4_paint_k4 (p := 4) rfl (by decide +kernel)
theorem dcX4_paint_101 : decode cX4_paint 101 = .ok (.getfield 15, 3) := dw_at cX4_paint_k4 (p := 5) rfl (by decide +kernel)
theorem dcX4_paint_104 : decode cX4_paint 104 = .ok (.iload 8, 2) := dw_at cX4_paint_k4 (p := 8) rfl (by decide +kernel)
theorem dcX4_paint_106 : decode cX4_paint 106 = .ok (.iaload, 1) := dw_at cX4_paint_k4 (p := 10) rfl (by decide +kernel)
theorem dcX4_paint_107 : decode cX4_paint 107 = .ok (.iconst (-1), 1) := dw_at cX4_paint_k4 (p := 11) rfl (by decide +kernel)
theorem dcX4_paint_108 : decode cX4_paint 108 = .ok (.if_icmp .ne 25, 3) := dw_at cX4_paint_k4 (p := 12) rfl (by decide +kernel)
theorem dcX4_paint_111 : decode cX4_paint 111 = .ok (.aload_n 0, 1) := dw_at cX4_paint_k4 (p := 15) rfl (by decide +kernel)
theorem dcX4_paint_112 : decode cX4_paint 112 = .ok (.getfield 15, 3) := dw_at cX4_paint_k4 (p := 16) rfl (by decide +kernel)
theorem dcX4_paint_115 : decode cX4_paint 115 = .ok (.iload 8, 2) := dw_at cX4_paint_k4 (p := 19) rfl (by decide +kernel)
theorem dcX4_paint_117 : decode cX4_paint 117 = .ok (.iconst 1, 1) := dw_at cX4_paint_k4 (p := 21) rfl (by decide +kernel)
theorem dcX4_paint_118 : decode cX4_paint 118 = .ok (.aload_n 0, 1) := dw_at cX4_paint_k4 (p := 22) rfl (by decide +kernel)
theorem dcX4_paint_119 : decode cX4_paint 119 = .ok (.getfield 15, 3) := dw_at cX4_paint_k4 (p := 23) rfl (by decide +kernel)
theorem dcX4_paint_122 : decode cX4_paint 122 = .ok (.iload 7, 2) := dw_at cX4_paint_k5 (p := 0) rfl (by decide +kernel)
theorem dcX4_paint_124 : decode cX4_paint 124 = .ok (.iaload, 1) := dw_at cX4_paint_k5 (p := 2) rfl (by decide +kernel)
theorem dcX4_paint_125 : decode cX4_paint 125 = .ok (.isub, 1) := dw_at cX4_paint_k5 (p := 3) rfl (by decide +kernel)
theorem dcX4_paint_126 : decode cX4_paint 126 = .ok (.iastore, 1) := dw_at cX4_paint_k5 (p := 4) rfl (by decide +kernel)
theorem dcX4_paint_127 : decode cX4_paint 127 = .ok (.iconst 1, 1) := dw_at cX4_paint_k5 (p := 5) rfl (by decide +kernel)
theorem dcX4_paint_128 : decode cX4_paint 128 = .ok (.istore 4, 2) := dw_at cX4_paint_k5 (p := 6) rfl (by decide +kernel)
theorem dcX4_paint_130 : decode cX4_paint 130 = .ok (.goto 44, 3) := dw_at cX4_paint_k5 (p := 8) rfl (by decide +kernel)
theorem dcX4_paint_133 : decode cX4_paint 133 = .ok (.aload_n 0, 1) := dw_at cX4_paint_k5 (p := 11) rfl (by decide +kernel)
theorem dcX4_paint_134 : decode cX4_paint 134 = .ok (.getfield 15, 3) := dw_at cX4_paint_k5 (p := 12) rfl (by decide +kernel)
theorem dcX4_paint_137 : decode cX4_paint 137 = .ok (.iload 7, 2) := dw_at cX4_paint_k5 (p := 15) rfl (by decide +kernel)
theorem dcX4_paint_139 : decode cX4_paint 139 = .ok (.iaload, 1) := dw_at cX4_paint_k5 (p := 17) rfl (by decide +kernel)
theorem dcX4_paint_140 : decode cX4_paint 140 = .ok (.iconst (-1), 1) := dw_at cX4_paint_k5 (p := 18) rfl (by decide +kernel)
theorem dcX4_paint_141 : decode cX4_paint 141 = .ok (.if_icmp .ne 33, 3) := dw_at cX4_paint_k5 (p := 19) rfl (by decide +kernel)
theorem dcX4_paint_144 : decode cX4_paint 144 = .ok (.aload_n 0, 1) := dw_at cX4_paint_k5 (p := 22) rfl (by decide +kernel)
theorem dcX4_paint_145 : decode cX4_paint 145 = .ok (.getfield 15, 3) := dw_at cX4_paint_k5 (p := 23) rfl (by decide +kernel)
theorem dcX4_paint_148 : decode cX4_paint 148 = .ok (.iload 8, 2) := dw_at cX4_paint_k6 (p := 0) rfl (by decide +kernel)
theorem dcX4_paint_150 : decode cX4_paint 150 = .ok (.iaload, 1) := dw_at cX4_paint_k6 (p := 2) rfl (by decide +kernel)
theorem dcX4_paint_151 : decode cX4_paint 151 = .ok (.iconst (-1), 1) := dw_at cX4_paint_k6 (p := 3) rfl (by decide +kernel)
theorem dcX4_paint_152 : decode cX4_paint 152 = .ok (.if_icmp .eq 22, 3) := dw_at cX4_paint_k6 (p := 4) rfl (by decide +kernel)
theorem dcX4_paint_155 : decode cX4_paint 155 = .ok (.aload_n 0, 1) := dw_at cX4_paint_k6 (p := 7) rfl (by decide +kernel)
theorem dcX4_paint_156 : decode cX4_paint 156 = .ok (.getfield 15, 3) := dw_at cX4_paint_k6 (p := 8) rfl (by decide +kernel)
theorem dcX4_paint_159 : decode cX4_paint 159 = .ok (.iload 7, 2) := dw_at cX4_paint_k6 (p := 11) rfl (by decide +kernel)
theorem dcX4_paint_161 : decode cX4_paint 161 = .ok (.iconst 1, 1) := dw_at cX4_paint_k6 (p := 13) rfl (by decide +kernel)
theorem dcX4_paint_162 : decode cX4_paint 162 = .ok (.aload_n 0, 1) := dw_at cX4_paint_k6 (p := 14) rfl (by decide +kernel)
theorem dcX4_paint_163 : decode cX4_paint 163 = .ok (.getfield 15, 3) := dw_at cX4_paint_k6 (p := 15) rfl (by decide +kernel)
theorem dcX4_paint_166 : decode cX4_paint 166 = .ok (.iload 8, 2) := dw_at cX4_paint_k6 (p := 18) rfl (by decide +kernel)
theorem dcX4_paint_168 : decode cX4_paint 168 = .ok (.iaload, 1) := dw_at cX4_paint_k6 (p := 20) rfl (by decide +kernel)
theorem dcX4_paint_169 : decode cX4_paint 169 = .ok (.isub, 1) := dw_at cX4_paint_k6 (p := 21) rfl (by decide +kernel)
theorem dcX4_paint_170 : decode cX4_paint 170 = .ok (.iastore, 1) := dw_at cX4_paint_k6 (p := 22) rfl (by decide +kernel)
theorem dcX4_paint_171 : decode cX4_paint 171 = .ok (.iconst 1, 1) := dw_at cX4_paint_k6 (p := 23) rfl (by decide +kernel)
theorem dcX4_paint_172 : decode cX4_paint 172 = .ok (.istore 4, 2) := dw_at cX4_paint_k7 (p := 0) rfl (by decide +kernel)
theorem dcX4_paint_174 : decode cX4_paint 174 = .ok (.iinc 6 1, 3) := dw_at cX4_paint_k7 (p := 2) rfl (by decide +kernel)
theorem dcX4_paint_177 : decode cX4_paint 177 = .ok (.goto (-151), 3) := dw_at cX4_paint_k7 (p := 5) rfl (by decide +kernel)
theorem dcX4_paint_180 : decode cX4_paint 180 = .ok (.iinc 5 1, 3) := dw_at cX4_paint_k7 (p := 8) rfl (by decide +kernel)
theorem dcX4_paint_183 : decode cX4_paint 183 = .ok (.goto (-175), 3) := dw_at cX4_paint_k7 (p := 11) rfl (by decide +kernel)
theorem dcX4_paint_186 : decode cX4_paint 186 = .ok (.return_, 1) := dw_at cX4_paint_k7 (p := 14) rfl (by decide +kernel)
def cm_X4_paint_0 (vl : Nat → Nat) (K : Nat) (go : Nat → Int32 → Int32 → Int32 → Int32 → Int32 → Int32 → Int32 → Nat → Nat → ow_MS → Option ow_MS) (x2 : Int32) (x3 : Int32) (x4 : Int32) (x5 : Int32) (x6 : Int32) (x7 : Int32) (x8 : Int32) (r0 : Nat) (r1 : Nat) (z : ow_MS) : Option ow_MS :=
 go 1 x2 0 1 0 0 0 0 r0 r1 z
def cm_X4_paint_1 (vl : Nat → Nat) (K : Nat) (go : Nat → Int32 → Int32 → Int32 → Int32 → Int32 → Int32 → Int32 → Nat → Nat → ow_MS → Option ow_MS) (x2 : Int32) (x3 : Int32) (x4 : Int32) (x5 : Int32) (x6 : Int32) (x7 : Int32) (x8 : Int32) (r0 : Nat) (r1 : Nat) (z : ow_MS) : Option ow_MS :=
 (if 48 ≤ x5 then some z
 else (if x4 = 0 then some z
 else go 2 x2 x3 0 x5 0 0 0 r0 r1 z))
def cm_X4_paint_2 (vl : Nat → Nat) (K : Nat) (go : Nat → Int32 → Int32 → Int32 → Int32 → Int32 → Int32 → Int32 → Nat → Nat → ow_MS → Option ow_MS) (x2 : Int32) (x3 : Int32) (x4 : Int32) (x5 : Int32) (x6 : Int32) (x7 : Int32) (x8 : Int32) (r0 : Nat) (r1 : Nat) (z : ow_MS) : Option ow_MS :=
 rdF z (r1 + 8) fun v1 => (if (2 * v1) ≤ x6 then go 1 x2 x3 x4 (x5 + 1) 0 0 0 r0 r1 z
 else crI (cX vl) z (r1 + 6) x6 fun v2 => (if v2 = x2 then crI (cX vl) z (r0 + 1) (2 * x6) fun v3 => crI (cX vl) z (r0 + 1) ((2 * x6) + 1) fun v4 => (if x3 = 0 then ctI (cX vl) z (r0 + 3) v3 0 fun z5 => go 3 x2 1 x4 x5 x6 v3 v4 r0 r1 z5
 else go 3 x2 x3 x4 x5 x6 v3 v4 r0 r1 z)
 else go 5 x2 x3 x4 x5 x6 0 0 r0 r1 z))
def cm_X4_paint_3 (vl : Nat → Nat) (K : Nat) (go : Nat → Int32 → Int32 → Int32 → Int32 → Int32 → Int32 → Int32 → Nat → Nat → ow_MS → Option ow_MS) (x2 : Int32) (x3 : Int32) (x4 : Int32) (x5 : Int32) (x6 : Int32) (x7 : Int32) (x8 : Int32) (r0 : Nat) (r1 : Nat) (z : ow_MS) : Option ow_MS :=
 crI (cX vl) z (r0 + 3) x7 fun v6 => (if v6 = (-1) then go 4 x2 x3 x4 x5 x6 x7 x8 r0 r1 z
 else crI (cX vl) z (r0 + 3) x8 fun v7 => (if v7 = (-1) then crI (cX vl) z (r0 + 3) x7 fun v8 => ctI (cX vl) z (r0 + 3) x8 (1 - v8) fun z9 => go 5 x2 x3 1 x5 x6 0 0 r0 r1 z9
 else go 4 x2 x3 x4 x5 x6 x7 x8 r0 r1 z))
def cm_X4_paint_4 (vl : Nat → Nat) (K : Nat) (go : Nat → Int32 → Int32 → Int32 → Int32 → Int32 → Int32 → Int32 → Nat → Nat → ow_MS → Option ow_MS) (x2 : Int32) (x3 : Int32) (x4 : Int32) (x5 : Int32) (x6 : Int32) (x7 : Int32) (x8 : Int32) (r0 : Nat) (r1 : Nat) (z : ow_MS) : Option ow_MS :=
 crI (cX vl) z (r0 + 3) x7 fun v10 => (if v10 = (-1) then crI (cX vl) z (r0 + 3) x8 fun v11 => (if v11 = (-1) then go 5 x2 x3 x4 x5 x6 0 0 r0 r1 z
 else crI (cX vl) z (r0 + 3) x8 fun v12 => ctI (cX vl) z (r0 + 3) x7 (1 - v12) fun z13 => go 5 x2 x3 1 x5 x6 0 0 r0 r1 z13)
 else go 5 x2 x3 x4 x5 x6 0 0 r0 r1 z)
def cm_X4_paint_5 (vl : Nat → Nat) (K : Nat) (go : Nat → Int32 → Int32 → Int32 → Int32 → Int32 → Int32 → Int32 → Nat → Nat → ow_MS → Option ow_MS) (x2 : Int32) (x3 : Int32) (x4 : Int32) (x5 : Int32) (x6 : Int32) (x7 : Int32) (x8 : Int32) (r0 : Nat) (r1 : Nat) (z : ow_MS) : Option ow_MS :=
 go 2 x2 x3 x4 x5 (x6 + 1) 0 0 r0 r1 z
def cb_X4_paint (vl : Nat → Nat) (K : Nat) (go : Nat → Int32 → Int32 → Int32 → Int32 → Int32 → Int32 → Int32 → Nat → Nat → ow_MS → Option ow_MS) (L : Nat) (x2 : Int32) (x3 : Int32) (x4 : Int32) (x5 : Int32) (x6 : Int32) (x7 : Int32) (x8 : Int32) (r0 : Nat) (r1 : Nat) (z : ow_MS) : Option ow_MS := match L with
  | 0 => cm_X4_paint_0 vl K go x2 x3 x4 x5 x6 x7 x8 r0 r1 z
  | 1 => cm_X4_paint_1 vl K go x2 x3 x4 x5 x6 x7 x8 r0 r1 z
  | 2 => cm_X4_paint_2 vl K go x2 x3 x4 x5 x6 x7 x8 r0 r1 z
  | 3 => cm_X4_paint_3 vl K go x2 x3 x4 x5 x6 x7 x8 r0 r1 z
  | 4 => cm_X4_paint_4 vl K go x2 x3 x4 x5 x6 x7 x8 r0 r1 z
  | 5 => cm_X4_paint_5 vl K go x2 x3 x4 x5 x6 x7 x8 r0 r1 z
  | _ => none
def c_X4_paint (vl : Nat → Nat) (K : Nat) : Nat → Nat → Int32 → Int32 → Int32 → Int32 → Int32 → Int32 → Int32 → Nat → Nat → ow_MS → Option ow_MS
  | 0 => fun _ _ _ _ _ _ _ _ _ _ _ => none
  | k + 1 => cb_X4_paint vl K (c_X4_paint vl K k)
def ce_X4_paint (vl : Nat → Nat) (K : Nat) (r0 : Nat) (r1 : Nat) (x2 : Int32) (z : ow_MS) : Option ow_MS := c_X4_paint vl K K 0 x2 0 0 0 0 0 0 r0 r1 z
abbrev wc_X4_paint : List Cond := .code yX4_paint cX4_paint 9 none :: wC
theorem cdd_X4_paint : yX4_paint.cls = RX4 ∧ yX4_paint.cls ≠ "java/lang/invoke/MethodHandle" ∧ yX4_paint.cls ≠ "java/lang/invoke/VarHandle" ∧ (parseMethodDescriptor yX4_paint.desc).map (fun d => d.parameters.length) = some 2 := by decide +kernel
set_option maxHeartbeats 4000000 in
set_option maxRecDepth 100000 in
theorem kc_X4_paint (l : Launch) (D : va_G) (q : Nat → ClassId) (vl u : Nat → Nat) (hU0 : tw_inj (cX vl) u) (K : Nat) (r0 : Nat) (r1 : Nat) (x2 : Int32) (hr0 : cw_X4 r0) (hr1 : cw_X7 r1) (z z1 : ow_MS) (hq : ce_X4_paint vl K r0 r1 x2 z = some z1) : Met l yX4_paint wc_X4_paint ({ frames := 0, cells := 0, slots := 0, locals := 0 } : Room) (va_Pc [.ref (u r0), .ref (u r1), .int x2] (cw_pre D q vl u z)) (va_Qv (fun (_ : Unit) => True) (fun _ t => va_P D vwCl (uw (cX vl) q u z1) t.heap) (tw_A (cX vl) u)) 0 0 (tw_A (cX vl) u) := by
  refine Met.ofW (cc := cX4_paint) (maxL := 9) (ret := none) (by decide) rfl ?_
  intro p e s m args below meth c s₁ B hml hv
  obtain ⟨rfl, hP, hK⟩ := hv
  have hx := B.exec
  have hb := B.bytes
  have hr := B.returns
  have hts := atoms_spec (ws := wc_X4_paint) B.pre
  have hT : ∀ w ∈ wC, w.before ([.ref (u r0), .ref (u r1), .int x2] : List Value).toArray s = true := fun w h => hts w (List.mem_cons_of_mem _ h)
  have hown : s.vm.findClass RX4 = some m.cls := findClass_of_methodNamed B.named
  have hlocks := B.notSynchronized
  have hU : uw_inj (cX vl) u (tw_A (cX vl) u) := ⟨hU0, fun h hh => ⟨h, hh, rfl⟩⟩
  have hM : uw_M D vwCl (cX vl) q (tw_A (cX vl) u) s.heap u z s.heap [] := ⟨hP, va_S.rf⟩
  have hl := lv_entry ([.ref (u r0), .ref (u r1), .int x2]) (n := 9) (Nat.le_of_ble_eq_true rfl)
  rw [lg_entry_eq]
  generalize (lg_sl ([.ref (u r0), .ref (u r1), .int x2]) ++ List.replicate (9 - (lg_sl ([.ref (u r0), .ref (u r1), .int x2])).length) Slot.unset).toArray = ls at hl ⊢
  have hl : lv_has ls 9 [(0, .ref (u r0)), (1, .ref (u r1)), (2, .int x2)] := hl
  refine ow_named (fun QQ hQQ => ?_)
  generalize ([.ref (u r0), .ref (u r1), .int x2] : List Value).toArray = args at hts hT hQQ ⊢
  have key : ∀ k : Nat, (∀ (x2 : Int32) (x3 : Int32) (x4 : Int32) (x5 : Int32) (x6 : Int32) (x7 : Int32) (x8 : Int32) (r0 : Nat) (r1 : Nat) (z : ow_MS) (H : Heap) (locs : List Loc) (ls : Array Slot), cw_X4 r0 → cw_X7 r1 → uw_M D vwCl (cX vl) q (tw_A (cX vl) u) s.heap u z H locs → lv_has ls 9 [(0, .ref (u r0)), (1, .ref (u r1)), (2, .int x2)] → c_X4_paint vl K k 0 x2 x3 x4 x5 x6 x7 x8 r0 r1 z = some z1 → W p l e ({ frames := 0, cells := 0, slots := 0, locals := 0 } : Room) s m args below meth c H locs 0 0 QQ (F0 m 0 ls [])) ∧ (∀ (x2 : Int32) (x3 : Int32) (x4 : Int32) (x5 : Int32) (x6 : Int32) (x7 : Int32) (x8 : Int32) (r0 : Nat) (r1 : Nat) (z : ow_MS) (H : Heap) (locs : List Loc) (ls : Array Slot), cw_X4 r0 → cw_X7 r1 → uw_M D vwCl (cX vl) q (tw_A (cX vl) u) s.heap u z H locs → lv_has ls 9 [(0, .ref (u r0)), (1, .ref (u r1)), (2, .int x2), (3, .int x3), (4, .int x4), (5, .int x5)] → c_X4_paint vl K k 1 x2 x3 x4 x5 x6 x7 x8 r0 r1 z = some z1 → W p l e ({ frames := 0, cells := 0, slots := 0, locals := 0 } : Room) s m args below meth c H locs 0 0 QQ (F0 m 8 ls [])) ∧ (∀ (x2 : Int32) (x3 : Int32) (x4 : Int32) (x5 : Int32) (x6 : Int32) (x7 : Int32) (x8 : Int32) (r0 : Nat) (r1 : Nat) (z : ow_MS) (H : Heap) (locs : List Loc) (ls : Array Slot), cw_X4 r0 → cw_X7 r1 → uw_M D vwCl (cX vl) q (tw_A (cX vl) u) s.heap u z H locs → lv_has ls 9 [(0, .ref (u r0)), (1, .ref (u r1)), (2, .int x2), (3, .int x3), (4, .int x4), (5, .int x5), (6, .int x6)] → c_X4_paint vl K k 2 x2 x3 x4 x5 x6 x7 x8 r0 r1 z = some z1 → W p l e ({ frames := 0, cells := 0, slots := 0, locals := 0 } : Room) s m args below meth c H locs 0 0 QQ (F0 m 26 ls [])) ∧ (∀ (x2 : Int32) (x3 : Int32) (x4 : Int32) (x5 : Int32) (x6 : Int32) (x7 : Int32) (x8 : Int32) (r0 : Nat) (r1 : Nat) (z : ow_MS) (H : Heap) (locs : List Loc) (ls : Array Slot), cw_X4 r0 → cw_X7 r1 → uw_M D vwCl (cX vl) q (tw_A (cX vl) u) s.heap u z H locs → lv_has ls 9 [(0, .ref (u r0)), (1, .ref (u r1)), (2, .int x2), (3, .int x3), (4, .int x4), (5, .int x5), (6, .int x6), (7, .int x7), (8, .int x8)] → c_X4_paint vl K k 3 x2 x3 x4 x5 x6 x7 x8 r0 r1 z = some z1 → W p l e ({ frames := 0, cells := 0, slots := 0, locals := 0 } : Room) s m args below meth c H locs 0 0 QQ (F0 m 89 ls [])) ∧ (∀ (x2 : Int32) (x3 : Int32) (x4 : Int32) (x5 : Int32) (x6 : Int32) (x7 : Int32) (x8 : Int32) (r0 : Nat) (r1 : Nat) (z : ow_MS) (H : Heap) (locs : List Loc) (ls : Array Slot), cw_X4 r0 → cw_X7 r1 → uw_M D vwCl (cX vl) q (tw_A (cX vl) u) s.heap u z H locs → lv_has ls 9 [(0, .ref (u r0)), (1, .ref (u r1)), (2, .int x2), (3, .int x3), (4, .int x4), (5, .int x5), (6, .int x6), (7, .int x7), (8, .int x8)] → c_X4_paint vl K k 4 x2 x3 x4 x5 x6 x7 x8 r0 r1 z = some z1 → W p l e ({ frames := 0, cells := 0, slots := 0, locals := 0 } : Room) s m args below meth c H locs 0 0 QQ (F0 m 133 ls [])) ∧ (∀ (x2 : Int32) (x3 : Int32) (x4 : Int32) (x5 : Int32) (x6 : Int32) (x7 : Int32) (x8 : Int32) (r0 : Nat) (r1 : Nat) (z : ow_MS) (H : Heap) (locs : List Loc) (ls : Array Slot), cw_X4 r0 → cw_X7 r1 → uw_M D vwCl (cX vl) q (tw_A (cX vl) u) s.heap u z H locs → lv_has ls 9 [(0, .ref (u r0)), (1, .ref (u r1)), (2, .int x2), (3, .int x3), (4, .int x4), (5, .int x5), (6, .int x6)] → c_X4_paint vl K k 5 x2 x3 x4 x5 x6 x7 x8 r0 r1 z = some z1 → W p l e ({ frames := 0, cells := 0, slots := 0, locals := 0 } : Room) s m args below meth c H locs 0 0 QQ (F0 m 174 ls [])) := by
    intro k
    induction k with
    | zero => exact ⟨fun _ _ _ _ _ _ _ _ _ _ _ _ _ _ _ _ _ hq => cw_no hq, fun _ _ _ _ _ _ _ _ _ _ _ _ _ _ _ _ _ hq => cw_no hq, fun _ _ _ _ _ _ _ _ _ _ _ _ _ _ _ _ _ hq => cw_no hq, fun _ _ _ _ _ _ _ _ _ _ _ _ _ _ _ _ _ hq => cw_no hq, fun _ _ _ _ _ _ _ _ _ _ _ _ _ _ _ _ _ hq => cw_no hq, fun _ _ _ _ _ _ _ _ _ _ _ _ _ _ _ _ _ hq => cw_no hq⟩
    | succ k ih =>
      obtain ⟨ih_0, ih_1, ih_2, ih_3, ih_4, ih_5⟩ := ih
      refine ⟨?_, ?_, ?_, ?_, ?_, ?_⟩
      · intro x2 x3 x4 x5 x6 x7 x8 r0 r1 z H locs ls hr0 hr1 hM hl hq
        have hq : cm_X4_paint_0 vl K (c_X4_paint vl K k) x2 x3 x4 x5 x6 x7 x8 r0 r1 z = some z1 := hq
        unfold cm_X4_paint_0 at hq
        refine lv_iconst (v := 0) hx hb dcX4_paint_0 (by decide) ?_
        refine lv_istore_n (lv' := [(3, .int 0), (0, .ref (u r0)), (1, .ref (u r1)), (2, .int x2)]) hx hb dcX4_paint_1 rfl hl (by decide) rfl (fun ls hl => ?_)
        refine lv_iconst (v := 1) hx hb dcX4_paint_2 (by decide) ?_
        refine lv_istore (lv' := [(4, .int 1), (3, .int 0), (0, .ref (u r0)), (1, .ref (u r1)), (2, .int x2)]) hx hb dcX4_paint_3 hl (by decide) rfl (fun ls hl => ?_)
        refine lv_iconst (v := 0) hx hb dcX4_paint_5 (by decide) ?_
        refine lv_istore (lv' := [(5, .int 0), (4, .int 1), (3, .int 0), (0, .ref (u r0)), (1, .ref (u r1)), (2, .int x2)]) hx hb dcX4_paint_6 hl (by decide) rfl (fun ls hl => ?_)
        exact ih_1 x2 0 1 0 0 0 0 r0 r1 z H locs ls hr0 hr1 hM (lv_sub hl [3, 4, 5, 2, 1, 0] rfl) hq
      · intro x2 x3 x4 x5 x6 x7 x8 r0 r1 z H locs ls hr0 hr1 hM hl hq
        have hq : cm_X4_paint_1 vl K (c_X4_paint vl K k) x2 x3 x4 x5 x6 x7 x8 r0 r1 z = some z1 := hq
        unfold cm_X4_paint_1 at hq
        refine lv_iload hx hb dcX4_paint_8 (lv_at hl 5 rfl) ?_
        refine lv_bipush (v := 48) hx hb dcX4_paint_10 (by decide) ?_
        refine lv_icmp_ge (tgt := 186) hx hb dcX4_paint_12 (by decide) (fun hc => ?_) (fun hc => ?_)
        · have hq := tw_it hq hc
          exact cw_vret hx hb hr hlocks hM hq hQQ dcX4_paint_186
        · have hq := tw_if hq hc
          refine lv_iload hx hb dcX4_paint_15 (lv_at hl 4 rfl) ?_
          refine lv_if_eq (tgt := 186) hx hb dcX4_paint_17 (by decide) (fun hc => ?_) (fun hc => ?_)
          · have hq := tw_it hq hc
            exact cw_vret hx hb hr hlocks hM hq hQQ dcX4_paint_186
          · have hq := tw_if hq hc
            refine lv_iconst (v := 0) hx hb dcX4_paint_20 (by decide) ?_
            refine lv_istore (lv' := [(4, .int 0), (0, .ref (u r0)), (1, .ref (u r1)), (2, .int x2), (3, .int x3), (5, .int x5)]) hx hb dcX4_paint_21 hl (by decide) rfl (fun ls hl => ?_)
            refine lv_iconst (v := 0) hx hb dcX4_paint_23 (by decide) ?_
            refine lv_istore (lv' := [(6, .int 0), (4, .int 0), (0, .ref (u r0)), (1, .ref (u r1)), (2, .int x2), (3, .int x3), (5, .int x5)]) hx hb dcX4_paint_24 hl (by decide) rfl (fun ls hl => ?_)
            exact ih_2 x2 x3 0 x5 0 0 0 r0 r1 z H locs ls hr0 hr1 hM (lv_sub hl [2, 3, 4, 5, 1, 6, 0] rfl) hq
      · intro x2 x3 x4 x5 x6 x7 x8 r0 r1 z H locs ls hr0 hr1 hM hl hq
        have hq : cm_X4_paint_2 vl K (c_X4_paint vl K k) x2 x3 x4 x5 x6 x7 x8 r0 r1 z = some z1 := hq
        unfold cm_X4_paint_2 at hq
        refine lv_iload hx hb dcX4_paint_26 (lv_at hl 6 rfl) ?_
        refine lv_iconst (v := 2) hx hb dcX4_paint_28 (by decide) ?_
        refine lv_aload_n hx hb dcX4_paint_29 rfl (lv_at hl 1 rfl) ?_
        refine vgX4_45 hx hb hT hown hK hM hr1 hq dcX4_paint_30 (fun v1 hq => ?_)
        refine lv_imul hx hb dcX4_paint_33 ?_
        refine lv_icmp_ge (tgt := 180) hx hb dcX4_paint_34 (by decide) (fun hc => ?_) (fun hc => ?_)
        · have hq := tw_it hq hc
          refine lv_iinc (v := (x5 + 1)) (lv' := [(5, .int (x5 + 1)), (0, .ref (u r0)), (1, .ref (u r1)), (2, .int x2), (3, .int x3), (4, .int x4), (6, .int x6)]) hx hb dcX4_paint_180 hl (k := 5) rfl rfl (by decide) rfl (fun ls hl => ?_)
          refine lv_goto (tgt := 8) hx hb dcX4_paint_183 (by decide) ?_
          exact ih_1 x2 x3 x4 (x5 + 1) 0 0 0 r0 r1 z H locs ls hr0 hr1 hM (lv_sub hl [1, 2, 3, 4, 5, 0] rfl) hq
        · have hq := tw_if hq hc
          refine lv_aload_n hx hb dcX4_paint_37 rfl (lv_at hl 1 rfl) ?_
          refine vgX4_83 hx hb hT hown hK hM hr1 dcX4_paint_38 ?_
          refine lv_iload hx hb dcX4_paint_41 (lv_at hl 6 rfl) ?_
          refine uw_iald cX_ok hx hb hK hM (cr_X7_5 hr1) hq dcX4_paint_43 (fun v2 hq => ?_)
          refine lv_iload_n hx hb dcX4_paint_44 rfl (lv_at hl 2 rfl) ?_
          refine lv_icmp_eq (tgt := 51) hx hb dcX4_paint_45 (by decide) (fun hc => ?_) (fun hc => ?_)
          · have hq := tw_it hq hc
            refine lv_aload_n hx hb dcX4_paint_51 rfl (lv_at hl 0 rfl) ?_
            refine vgX4_9 hx hb hT hown hK hM hr0 dcX4_paint_52 ?_
            refine lv_iconst (v := 2) hx hb dcX4_paint_55 (by decide) ?_
            refine lv_iload hx hb dcX4_paint_56 (lv_at hl 6 rfl) ?_
            refine lv_imul hx hb dcX4_paint_58 ?_
            refine uw_iald cX_ok hx hb hK hM (cr_X4_0 hr0) hq dcX4_paint_59 (fun v3 hq => ?_)
            refine lv_istore (lv' := [(7, .int v3), (0, .ref (u r0)), (1, .ref (u r1)), (2, .int x2), (3, .int x3), (4, .int x4), (5, .int x5), (6, .int x6)]) hx hb dcX4_paint_60 hl (by decide) rfl (fun ls hl => ?_)
            refine lv_aload_n hx hb dcX4_paint_62 rfl (lv_at hl 1 rfl) ?_
            refine vgX4_9 hx hb hT hown hK hM hr0 dcX4_paint_63 ?_
            refine lv_iconst (v := 2) hx hb dcX4_paint_66 (by decide) ?_
            refine lv_iload hx hb dcX4_paint_67 (lv_at hl 7 rfl) ?_
            refine lv_imul hx hb dcX4_paint_69 ?_
            refine lv_iconst (v := 1) hx hb dcX4_paint_70 (by decide) ?_
            refine lv_iadd hx hb dcX4_paint_71 ?_
            refine uw_iald cX_ok hx hb hK hM (cr_X4_0 hr0) hq dcX4_paint_72 (fun v4 hq => ?_)
            refine lv_istore (lv' := [(8, .int v4), (7, .int v3), (0, .ref (u r0)), (1, .ref (u r1)), (2, .int x2), (3, .int x3), (4, .int x4), (5, .int x5), (6, .int x6)]) hx hb dcX4_paint_73 hl (by decide) rfl (fun ls hl => ?_)
            refine lv_iload_n hx hb dcX4_paint_75 rfl (lv_at hl 5 rfl) ?_
            refine lv_if_ne (tgt := 89) hx hb dcX4_paint_76 (by decide) (fun hc => ?_) (fun hc => ?_)
            · have hq := tw_if hq hc
              exact ih_3 x2 x3 x4 x5 x6 v3 v4 r0 r1 z H locs ls hr0 hr1 hM (lv_sub hl [2, 3, 4, 5, 6, 7, 8, 1, 0] rfl) hq
            · have hq := tw_it hq hc
              refine lv_aload_n hx hb dcX4_paint_79 rfl (lv_at hl 2 rfl) ?_
              refine vgX4_15 hx hb hT hown hK hM hr0 dcX4_paint_80 ?_
              refine lv_iload hx hb dcX4_paint_83 (lv_at hl 1 rfl) ?_
              refine lv_iconst (v := 0) hx hb dcX4_paint_85 (by decide) ?_
              refine uw_iast cX_ok hU hx hb hK hM (cr_X4_2 hr0) hq dcX4_paint_86 (fun z5 H locs hM hq => ?_)
              refine lv_iconst (v := 1) hx hb dcX4_paint_87 (by decide) ?_
              refine lv_istore_n (lv' := [(3, .int 1), (8, .int v4), (7, .int v3), (0, .ref (u r0)), (1, .ref (u r1)), (2, .int x2), (4, .int x4), (5, .int x5), (6, .int x6)]) hx hb dcX4_paint_88 rfl hl (by decide) rfl (fun ls hl => ?_)
              exact ih_3 x2 1 x4 x5 x6 v3 v4 r0 r1 z5 H locs ls hr0 hr1 hM (lv_sub hl [3, 4, 5, 0, 6, 7, 8, 2, 1] rfl) hq
          · have hq := tw_if hq hc
            refine lv_goto (tgt := 174) hx hb dcX4_paint_48 (by decide) ?_
            exact ih_5 x2 x3 x4 x5 x6 0 0 r0 r1 z H locs ls hr0 hr1 hM (lv_sub hl [0, 1, 2, 3, 4, 5, 6] rfl) hq
      · intro x2 x3 x4 x5 x6 x7 x8 r0 r1 z H locs ls hr0 hr1 hM hl hq
        have hq : cm_X4_paint_3 vl K (c_X4_paint vl K k) x2 x3 x4 x5 x6 x7 x8 r0 r1 z = some z1 := hq
        unfold cm_X4_paint_3 at hq
        refine lv_aload_n hx hb dcX4_paint_89 rfl (lv_at hl 0 rfl) ?_
        refine vgX4_15 hx hb hT hown hK hM hr0 dcX4_paint_90 ?_
        refine lv_iload hx hb dcX4_paint_93 (lv_at hl 7 rfl) ?_
        refine uw_iald cX_ok hx hb hK hM (cr_X4_2 hr0) hq dcX4_paint_95 (fun v6 hq => ?_)
        refine lv_iconst (v := (-1)) hx hb dcX4_paint_96 (by decide) ?_
        refine lv_icmp_eq (tgt := 133) hx hb dcX4_paint_97 (by decide) (fun hc => ?_) (fun hc => ?_)
        · have hq := tw_it hq hc
          exact ih_4 x2 x3 x4 x5 x6 x7 x8 r0 r1 z H locs ls hr0 hr1 hM (lv_sub hl [0, 1, 2, 3, 4, 5, 6, 7, 8] rfl) hq
        · have hq := tw_if hq hc
          refine lv_aload_n hx hb dcX4_paint_100 rfl (lv_at hl 0 rfl) ?_
          refine vgX4_15 hx hb hT hown hK hM hr0 dcX4_paint_101 ?_
          refine lv_iload hx hb dcX4_paint_104 (lv_at hl 8 rfl) ?_
          refine uw_iald cX_ok hx hb hK hM (cr_X4_2 hr0) hq dcX4_paint_106 (fun v7 hq => ?_)
          refine lv_iconst (v := (-1)) hx hb dcX4_paint_107 (by decide) ?_
          refine lv_icmp_ne (tgt := 133) hx hb dcX4_paint_108 (by decide) (fun hc => ?_) (fun hc => ?_)
          · have hq := tw_if hq hc
            exact ih_4 x2 x3 x4 x5 x6 x7 x8 r0 r1 z H locs ls hr0 hr1 hM (lv_sub hl [0, 1, 2, 3, 4, 5, 6, 7, 8] rfl) hq
          · have hq := tw_it hq hc
            refine lv_aload_n hx hb dcX4_paint_111 rfl (lv_at hl 0 rfl) ?_
            refine vgX4_15 hx hb hT hown hK hM hr0 dcX4_paint_112 ?_
            refine lv_iload hx hb dcX4_paint_115 (lv_at hl 8 rfl) ?_
            refine lv_iconst (v := 1) hx hb dcX4_paint_117 (by decide) ?_
            refine lv_aload_n hx hb dcX4_paint_118 rfl (lv_at hl 0 rfl) ?_
            refine vgX4_15 hx hb hT hown hK hM hr0 dcX4_paint_119 ?_
            refine lv_iload hx hb dcX4_paint_122 (lv_at hl 7 rfl) ?_
            refine uw_iald cX_ok hx hb hK hM (cr_X4_2 hr0) hq dcX4_paint_124 (fun v8 hq => ?_)
            refine lv_isub hx hb dcX4_paint_125 ?_
            refine uw_iast cX_ok hU hx hb hK hM (cr_X4_2 hr0) hq dcX4_paint_126 (fun z9 H locs hM hq => ?_)
            refine lv_iconst (v := 1) hx hb dcX4_paint_127 (by decide) ?_
            refine lv_istore (lv' := [(4, .int 1), (0, .ref (u r0)), (1, .ref (u r1)), (2, .int x2), (3, .int x3), (5, .int x5), (6, .int x6), (7, .int x7), (8, .int x8)]) hx hb dcX4_paint_128 hl (by decide) rfl (fun ls hl => ?_)
            refine lv_goto (tgt := 174) hx hb dcX4_paint_130 (by decide) ?_
            exact ih_5 x2 x3 1 x5 x6 0 0 r0 r1 z9 H locs ls hr0 hr1 hM (lv_sub hl [1, 2, 3, 4, 0, 5, 6] rfl) hq
      · intro x2 x3 x4 x5 x6 x7 x8 r0 r1 z H locs ls hr0 hr1 hM hl hq
        have hq : cm_X4_paint_4 vl K (c_X4_paint vl K k) x2 x3 x4 x5 x6 x7 x8 r0 r1 z = some z1 := hq
        unfold cm_X4_paint_4 at hq
        refine lv_aload_n hx hb dcX4_paint_133 rfl (lv_at hl 0 rfl) ?_
        refine vgX4_15 hx hb hT hown hK hM hr0 dcX4_paint_134 ?_
        refine lv_iload hx hb dcX4_paint_137 (lv_at hl 7 rfl) ?_
        refine uw_iald cX_ok hx hb hK hM (cr_X4_2 hr0) hq dcX4_paint_139 (fun v10 hq => ?_)
        refine lv_iconst (v := (-1)) hx hb dcX4_paint_140 (by decide) ?_
        refine lv_icmp_ne (tgt := 174) hx hb dcX4_paint_141 (by decide) (fun hc => ?_) (fun hc => ?_)
        · have hq := tw_if hq hc
          exact ih_5 x2 x3 x4 x5 x6 0 0 r0 r1 z H locs ls hr0 hr1 hM (lv_sub hl [0, 1, 2, 3, 4, 5, 6] rfl) hq
        · have hq := tw_it hq hc
          refine lv_aload_n hx hb dcX4_paint_144 rfl (lv_at hl 0 rfl) ?_
          refine vgX4_15 hx hb hT hown hK hM hr0 dcX4_paint_145 ?_
          refine lv_iload hx hb dcX4_paint_148 (lv_at hl 8 rfl) ?_
          refine uw_iald cX_ok hx hb hK hM (cr_X4_2 hr0) hq dcX4_paint_150 (fun v11 hq => ?_)
          refine lv_iconst (v := (-1)) hx hb dcX4_paint_151 (by decide) ?_
          refine lv_icmp_eq (tgt := 174) hx hb dcX4_paint_152 (by decide) (fun hc => ?_) (fun hc => ?_)
          · have hq := tw_it hq hc
            exact ih_5 x2 x3 x4 x5 x6 0 0 r0 r1 z H locs ls hr0 hr1 hM (lv_sub hl [0, 1, 2, 3, 4, 5, 6] rfl) hq
          · have hq := tw_if hq hc
            refine lv_aload_n hx hb dcX4_paint_155 rfl (lv_at hl 0 rfl) ?_
            refine vgX4_15 hx hb hT hown hK hM hr0 dcX4_paint_156 ?_
            refine lv_iload hx hb dcX4_paint_159 (lv_at hl 7 rfl) ?_
            refine lv_iconst (v := 1) hx hb dcX4_paint_161 (by decide) ?_
            refine lv_aload_n hx hb dcX4_paint_162 rfl (lv_at hl 0 rfl) ?_
            refine vgX4_15 hx hb hT hown hK hM hr0 dcX4_paint_163 ?_
            refine lv_iload hx hb dcX4_paint_166 (lv_at hl 8 rfl) ?_
            refine uw_iald cX_ok hx hb hK hM (cr_X4_2 hr0) hq dcX4_paint_168 (fun v12 hq => ?_)
            refine lv_isub hx hb dcX4_paint_169 ?_
            refine uw_iast cX_ok hU hx hb hK hM (cr_X4_2 hr0) hq dcX4_paint_170 (fun z13 H locs hM hq => ?_)
            refine lv_iconst (v := 1) hx hb dcX4_paint_171 (by decide) ?_
            refine lv_istore (lv' := [(4, .int 1), (0, .ref (u r0)), (1, .ref (u r1)), (2, .int x2), (3, .int x3), (5, .int x5), (6, .int x6), (7, .int x7), (8, .int x8)]) hx hb dcX4_paint_172 hl (by decide) rfl (fun ls hl => ?_)
            exact ih_5 x2 x3 1 x5 x6 0 0 r0 r1 z13 H locs ls hr0 hr1 hM (lv_sub hl [1, 2, 3, 4, 0, 5, 6] rfl) hq
      · intro x2 x3 x4 x5 x6 x7 x8 r0 r1 z H locs ls hr0 hr1 hM hl hq
        have hq : cm_X4_paint_5 vl K (c_X4_paint vl K k) x2 x3 x4 x5 x6 x7 x8 r0 r1 z = some z1 := hq
        unfold cm_X4_paint_5 at hq
        refine lv_iinc (v := (x6 + 1)) (lv' := [(6, .int (x6 + 1)), (0, .ref (u r0)), (1, .ref (u r1)), (2, .int x2), (3, .int x3), (4, .int x4), (5, .int x5)]) hx hb dcX4_paint_174 hl (k := 6) rfl rfl (by decide) rfl (fun ls hl => ?_)
        refine lv_goto (tgt := 26) hx hb dcX4_paint_177 (by decide) ?_
        exact ih_2 x2 x3 x4 x5 (x6 + 1) 0 0 r0 r1 z H locs ls hr0 hr1 hM (lv_sub hl [1, 2, 3, 4, 5, 6, 0] rfl) hq
  exact (key K).1 x2 0 0 0 0 0 0 r0 r1 z s.heap [] ls hr0 hr1 hM (lv_sub hl [0, 1, 2] rfl) hq
theorem dcX4_numberRows_0 : decode cX4_numberRows 0 = .ok (.aload_n 0, 1) := dw_at cX4_numberRows_k0 (p := 0) rfl (by decide +kernel)
theorem dcX4_numberRows_1 : decode cX4_numberRows 1 = .ok (.getfield 18, 3) := dw_at cX4_numberRows_k0 (p := 1) rfl (by decide +kernel)
theorem dcX4_numberRows_4 : decode cX4_numberRows 4 = .ok (.iconst 0, 1) := dw_at cX4_numberRows_k0 (p := 4) rfl (by decide +kernel)
theorem dcX4_numberRows_5 : decode cX4_numberRows 5 = .ok (.aload_n 0, 1) := dw_at cX4_numberRows_k0 (p := 5) rfl (by decide +kernel)
theorem dcX4_numberRows_6 : decode cX4_numberRows 6 = .ok (.getfield 55, 3) := dw_at cX4_numberRows_k0 (p := 6) rfl (by decide +kernel)
theorem dcX4_numberRows_9 : decode cX4_numberRows 9 = .ok (.iconst (-1), 1) := dw_at cX4_numberRows_k0 (p := 9) rfl (by decide +kernel)
theorem dcX4_numberRows_10 : decode cX4_numberRows 10 = .ok (.invokestatic 49, 3) := dw_at cX4_numberRows_k0 (p := 10) rfl (by decide +kernel)
theorem dcX4_numberRows_13 : decode cX4_numberRows 13 = .ok (.iconst 0, 1) := dw_at cX4_numberRows_k0 (p := 13) rfl (by decide +kernel)
theorem dcX4_numberRows_14 : decode cX4_numberRows 14 = .ok (.istore 4, 2) := dw_at cX4_numberRows_k0 (p := 14) rfl (by decide +kernel)
theorem dcX4_numberRows_16 : decode cX4_numberRows 16 = .ok (.iconst 0, 1) := dw_at cX4_numberRows_k0 (p := 16) rfl (by decide +kernel)
theorem dcX4_numberRows_17 : decode cX4_numberRows 17 = .ok (.istore 5, 2) := dw_at cX4_numberRows_k0 (p := 17) rfl (by decide +kernel)
theorem dcX4_numberRows_19 : decode cX4_numberRows 19 = .ok (.iload 5, 2) := dw_at cX4_numberRows_k0 (p := 19) rfl (by decide +kernel)
theorem dcX4_numberRows_21 : decode cX4_numberRows 21 = .ok (.iconst 4, 1) := dw_at cX4_numberRows_k0 (p := 21) rfl (by decide +kernel)
theorem dcX4_numberRows_22 : decode cX4_numberRows 22 = .ok (.aload_n 1, 1) := dw_at cX4_numberRows_k0 (p := 22) rfl (by decide +kernel)
theorem dcX4_numberRows_23 : decode cX4_numberRows 23 = .ok (.getfield 45, 3) := dw_at cX4_numberRows_k0 (p := 23) rfl (by decide +kernel)
theorem dcX4_numberRows_26 : decode cX4_numberRows 26 = .ok (.imul, 1) := dw_at cX4_numberRows_k1 (p := 0) rfl (by decide +kernel)
theorem dcX4_numberRows_27 : decode cX4_numberRows 27 = .ok (.if_icmp .ge 65, 3) := dw_at cX4_numberRows_k1 (p := 1) rfl (by decide +kernel)
theorem dcX4_numberRows_30 : decode cX4_numberRows 30 = .ok (.aload_n 0, 1) := dw_at cX4_numberRows_k1 (p := 4) rfl (by decide +kernel)
theorem dcX4_numberRows_31 : decode cX4_numberRows 31 = .ok (.getfield 9, 3) := dw_at cX4_numberRows_k1 (p := 5) rfl (by decide +kernel)
theorem dcX4_numberRows_34 : decode cX4_numberRows 34 = .ok (.iload 5, 2) := dw_at cX4_numberRows_k1 (p := 8) rfl (by decide +kernel)
theorem dcX4_numberRows_36 : decode cX4_numberRows 36 = .ok (.iaload, 1) := dw_at cX4_numberRows_k1 (p := 10) rfl (by decide +kernel)
theorem dcX4_numberRows_37 : decode cX4_numberRows 37 = .ok (.istore 6, 2) := dw_at cX4_numberRows_k1 (p := 11) rfl (by decide +kernel)
theorem dcX4_numberRows_39 : decode cX4_numberRows 39 = .ok (.aload_n 1, 1) := dw_at cX4_numberRows_k1 (p := 13) rfl (by decide +kernel)
theorem dcX4_numberRows_40 : decode cX4_numberRows 40 = .ok (.getfield 83, 3) := dw_at cX4_numberRows_k1 (p := 14) rfl (by decide +kernel)
theorem dcX4_numberRows_43 : decode cX4_numberRows 43 = .ok (.iload 5, 2) := dw_at cX4_numberRows_k1 (p := 17) rfl (by decide +kernel)
theorem dcX4_numberRows_45 : decode cX4_numberRows 45 = .ok (.iconst 1, 1) := dw_at cX4_numberRows_k1 (p := 19) rfl (by decide +kernel)
theorem dcX4_numberRows_46 : decode cX4_numberRows 46 = .ok (.ishr, 1) := dw_at cX4_numberRows_k1 (p := 20) rfl (by decide +kernel)
theorem dcX4_numberRows_47 : decode cX4_numberRows 47 = .ok (.iaload, 1) := dw_at cX4_numberRows_k1 (p := 21) rfl (by decide +kernel)
theorem dcX4_numberRows_48 : decode cX4_numberRows 48 = .ok (.iload_n 2, 1) := dw_at cX4_numberRows_k1 (p := 22) rfl (by decide +kernel)
theorem dcX4_numberRows_49 : decode cX4_numberRows 49 = .ok (.if_icmp .ne 37, 3) := dw_at cX4_numberRows_k1 (p := 23) rfl (by decide +kernel)
theorem dcX4_numberRows_52 : decode cX4_numberRows 52 = .ok (.aload_n 0, 1) := dw_at cX4_numberRows_k2 (p := 0) rfl (by decide +kernel)
theorem dcX4_numberRows_53 : decode cX4_numberRows 53 = .ok (.getfield 15, 3) := dw_at cX4_numberRows_k2 (p := 1) rfl (by decide +kernel)
theorem dcX4_numberRows_56 : decode cX4_numberRows 56 = .ok (.iload 6, 2) := dw_at cX4_numberRows_k2 (p := 4) rfl (by decide +kernel)
theorem dcX4_numberRows_58 : decode cX4_numberRows 58 = .ok (.iaload, 1) := dw_at cX4_numberRows_k2 (p := 6) rfl (by decide +kernel)
theorem dcX4_numberRows_59 : decode cX4_numberRows 59 = .ok (.iload_n 3, 1) := dw_at cX4_numberRows_k2 (p := 7) rfl (by decide +kernel)
theorem dcX4_numberRows_60 : decode cX4_numberRows 60 = .ok (.if_icmp .ne 26, 3) := dw_at cX4_numberRows_k2 (p := 8) rfl (by decide +kernel)
theorem dcX4_numberRows_63 : decode cX4_numberRows 63 = .ok (.aload_n 0, 1) := dw_at cX4_numberRows_k2 (p := 11) rfl (by decide +kernel)
theorem dcX4_numberRows_64 : decode cX4_numberRows 64 = .ok (.getfield 18, 3) := dw_at cX4_numberRows_k2 (p := 12) rfl (by decide +kernel)
theorem dcX4_numberRows_67 : decode cX4_numberRows 67 = .ok (.iload 6, 2) := dw_at cX4_numberRows_k2 (p := 15) rfl (by decide +kernel)
theorem dcX4_numberRows_69 : decode cX4_numberRows 69 = .ok (.iaload, 1) := dw_at cX4_numberRows_k2 (p := 17) rfl (by decide +kernel)
theorem dcX4_numberRows_70 : decode cX4_numberRows 70 = .ok (.iconst (-1), 1) := dw_at cX4_numberRows_k2 (p := 18) rfl (by decide +kernel)
theorem dcX4_numberRows_71 : decode cX4_numberRows 71 = .ok (.if_icmp .ne 15, 3) := dw_at cX4_numberRows_k2 (p := 19) rfl (by decide +kernel)
theorem dcX4_numberRows_74 : decode cX4_numberRows 74 = .ok (.aload_n 0, 1) := dw_at cX4_numberRows_k2 (p := 22) rfl (by decide +kernel)
theorem dcX4_numberRows_75 : decode cX4_numberRows 75 = .ok (.getfield 18, 3) := dw_at cX4_numberRows_k2 (p := 23) rfl (by decide +kernel)
theorem dcX4_numberRows_78 : decode cX4_numberRows 78 = .ok (.iload 6, 2) := dw_at cX4_numberRows_k3 (p := 0) rfl (by decide +kernel)
theorem dcX4_numberRows_80 : decode cX4_numberRows 80 = .ok (.iload 4, 2) := dw_at cX4_numberRows_k3 (p := 2) rfl (by decide +kernel)
theorem dcX4_numberRows_82 : decode cX4_numberRows 82 = .ok (.iastore, 1) := dw_at cX4_numberRows_k3 (p := 4) rfl (by decide +kernel)
theorem dcX4_numberRows_83 : decode cX4_numberRows 83 = .ok (.iinc 4 1, 3) := dw_at cX4_numberRows_k3 (p := 5) rfl (by decide +kernel)
theorem dcX4_numberRows_86 : decode cX4_numberRows 86 = .ok (.iinc 5 1, 3) := dw_at cX4_numberRows_k3 (p := 8) rfl (by decide +kernel)
theorem dcX4_numberRows_89 : decode cX4_numberRows 89 = .ok (.goto (-70), 3) := dw_at cX4_numberRows_k3 (p := 11) rfl (by decide +kernel)
theorem dcX4_numberRows_92 : decode cX4_numberRows 92 = .ok (.iload 4, 2) := dw_at cX4_numberRows_k3 (p := 14) rfl (by decide +kernel)
theorem dcX4_numberRows_94 : decode cX4_numberRows 94 = .ok (.ireturn, 1) := dw_at cX4_numberRows_k3 (p := 16) rfl (by decide +kernel)
def cm_X4_numberRows_0 (vl : Nat → Nat) (K : Nat) (go : Nat → Int32 → Int32 → Int32 → Int32 → Int32 → Nat → Nat → ow_MS → Option (Int32 × ow_MS)) (x2 : Int32) (x3 : Int32) (x4 : Int32) (x5 : Int32) (x6 : Int32) (r0 : Nat) (r1 : Nat) (z : ow_MS) : Option (Int32 × ow_MS) :=
 rdF z (r0 + 2) fun v1 => cs0 (ce_J7_fill_fda19 vl K (r0 + 4) 0 v1 (-1) z) fun z2 => go 1 x2 x3 0 0 0 r0 r1 z2
def cm_X4_numberRows_1 (vl : Nat → Nat) (K : Nat) (go : Nat → Int32 → Int32 → Int32 → Int32 → Int32 → Nat → Nat → ow_MS → Option (Int32 × ow_MS)) (x2 : Int32) (x3 : Int32) (x4 : Int32) (x5 : Int32) (x6 : Int32) (r0 : Nat) (r1 : Nat) (z : ow_MS) : Option (Int32 × ow_MS) :=
 rdF z (r1 + 8) fun v3 => (if (4 * v3) ≤ x5 then some (x4, z)
 else crI (cX vl) z (r0 + 1) x5 fun v4 => crI (cX vl) z (r1 + 6) ((x5 : Int32) >>> ((1 : Int32) &&& 31)) fun v5 => (if v5 = x2 then crI (cX vl) z (r0 + 3) v4 fun v6 => (if v6 = x3 then crI (cX vl) z (r0 + 4) v4 fun v7 => (if v7 = (-1) then ctI (cX vl) z (r0 + 4) v4 x4 fun z8 => go 2 x2 x3 (x4 + 1) x5 v4 r0 r1 z8
 else go 2 x2 x3 x4 x5 v4 r0 r1 z)
 else go 2 x2 x3 x4 x5 v4 r0 r1 z)
 else go 2 x2 x3 x4 x5 v4 r0 r1 z))
def cm_X4_numberRows_2 (vl : Nat → Nat) (K : Nat) (go : Nat → Int32 → Int32 → Int32 → Int32 → Int32 → Nat → Nat → ow_MS → Option (Int32 × ow_MS)) (x2 : Int32) (x3 : Int32) (x4 : Int32) (x5 : Int32) (x6 : Int32) (r0 : Nat) (r1 : Nat) (z : ow_MS) : Option (Int32 × ow_MS) :=
 go 1 x2 x3 x4 (x5 + 1) 0 r0 r1 z
def cb_X4_numberRows (vl : Nat → Nat) (K : Nat) (go : Nat → Int32 → Int32 → Int32 → Int32 → Int32 → Nat → Nat → ow_MS → Option (Int32 × ow_MS)) (L : Nat) (x2 : Int32) (x3 : Int32) (x4 : Int32) (x5 : Int32) (x6 : Int32) (r0 : Nat) (r1 : Nat) (z : ow_MS) : Option (Int32 × ow_MS) := match L with
  | 0 => cm_X4_numberRows_0 vl K go x2 x3 x4 x5 x6 r0 r1 z
  | 1 => cm_X4_numberRows_1 vl K go x2 x3 x4 x5 x6 r0 r1 z
  | 2 => cm_X4_numberRows_2 vl K go x2 x3 x4 x5 x6 r0 r1 z
  | _ => none
def c_X4_numberRows (vl : Nat → Nat) (K : Nat) : Nat → Nat → Int32 → Int32 → Int32 → Int32 → Int32 → Nat → Nat → ow_MS → Option (Int32 × ow_MS)
  | 0 => fun _ _ _ _ _ _ _ _ _ => none
  | k + 1 => cb_X4_numberRows vl K (c_X4_numberRows vl K k)
def ce_X4_numberRows (vl : Nat → Nat) (K : Nat) (r0 : Nat) (r1 : Nat) (x2 : Int32) (x3 : Int32) (z : ow_MS) : Option (Int32 × ow_MS) := c_X4_numberRows vl K K 0 x2 x3 0 0 0 r0 r1 z
abbrev wc_X4_numberRows : List Cond := .code yX4_numberRows cX4_numberRows 7 (some .int) :: wC
theorem cdd_X4_numberRows : yX4_numberRows.cls = RX4 ∧ yX4_numberRows.cls ≠ "java/lang/invoke/MethodHandle" ∧ yX4_numberRows.cls ≠ "java/lang/invoke/VarHandle" ∧ (parseMethodDescriptor yX4_numberRows.desc).map (fun d => d.parameters.length) = some 3 := by decide +kernel
set_option maxHeartbeats 4000000 in
set_option maxRecDepth 100000 in
theorem kc_X4_numberRows (l : Launch) (D : va_G) (q : Nat → ClassId) (vl u : Nat → Nat) (hU0 : tw_inj (cX vl) u) (K : Nat) (r0 : Nat) (r1 : Nat) (x2 : Int32) (x3 : Int32) (hr0 : cw_X4 r0) (hr1 : cw_X7 r1) (z z1 : ow_MS) (r : Int32) (hq : ce_X4_numberRows vl K r0 r1 x2 x3 z = some (r, z1)) : Met l yX4_numberRows wc_X4_numberRows ({ frames := 2, cells := 0, slots := 0, locals := 46 } : Room) (va_Pc [.ref (u r0), .ref (u r1), .int x2, .int x3] (cw_pre D q vl u z)) (va_Qi (fun x (_ : Unit) => x = r) (fun _ t => va_P D vwCl (uw (cX vl) q u z1) t.heap) (tw_A (cX vl) u)) 0 0 (tw_A (cX vl) u) := by
  refine Met.ofW (cc := cX4_numberRows) (maxL := 7) (ret := (some .int)) (by decide) rfl ?_
  intro p e s m args below meth c s₁ B hml hv
  obtain ⟨rfl, hP, hK⟩ := hv
  have hx := B.exec
  have hb := B.bytes
  have hr := B.returns
  have hts := atoms_spec (ws := wc_X4_numberRows) B.pre
  have hT : ∀ w ∈ wC, w.before ([.ref (u r0), .ref (u r1), .int x2, .int x3] : List Value).toArray s = true := fun w h => hts w (List.mem_cons_of_mem _ h)
  have hown : s.vm.findClass RX4 = some m.cls := findClass_of_methodNamed B.named
  have hlocks := B.notSynchronized
  have hU : uw_inj (cX vl) u (tw_A (cX vl) u) := ⟨hU0, fun h hh => ⟨h, hh, rfl⟩⟩
  have hM : uw_M D vwCl (cX vl) q (tw_A (cX vl) u) s.heap u z s.heap [] := ⟨hP, va_S.rf⟩
  have hl := lv_entry ([.ref (u r0), .ref (u r1), .int x2, .int x3]) (n := 7) (Nat.le_of_ble_eq_true rfl)
  rw [lg_entry_eq]
  generalize (lg_sl ([.ref (u r0), .ref (u r1), .int x2, .int x3]) ++ List.replicate (7 - (lg_sl ([.ref (u r0), .ref (u r1), .int x2, .int x3])).length) Slot.unset).toArray = ls at hl ⊢
  have hl : lv_has ls 7 [(0, .ref (u r0)), (1, .ref (u r1)), (2, .int x2), (3, .int x3)] := hl
  refine ow_named (fun QQ hQQ => ?_)
  generalize ([.ref (u r0), .ref (u r1), .int x2, .int x3] : List Value).toArray = args at hts hT hQQ ⊢
  have key : ∀ k : Nat, (∀ (x2 : Int32) (x3 : Int32) (x4 : Int32) (x5 : Int32) (x6 : Int32) (r0 : Nat) (r1 : Nat) (z : ow_MS) (H : Heap) (locs : List Loc) (ls : Array Slot), cw_X4 r0 → cw_X7 r1 → uw_M D vwCl (cX vl) q (tw_A (cX vl) u) s.heap u z H locs → lv_has ls 7 [(0, .ref (u r0)), (1, .ref (u r1)), (2, .int x2), (3, .int x3)] → c_X4_numberRows vl K k 0 x2 x3 x4 x5 x6 r0 r1 z = some (r, z1) → W p l e ({ frames := 2, cells := 0, slots := 0, locals := 46 } : Room) s m args below meth c H locs 0 0 QQ (F0 m 0 ls [])) ∧ (∀ (x2 : Int32) (x3 : Int32) (x4 : Int32) (x5 : Int32) (x6 : Int32) (r0 : Nat) (r1 : Nat) (z : ow_MS) (H : Heap) (locs : List Loc) (ls : Array Slot), cw_X4 r0 → cw_X7 r1 → uw_M D vwCl (cX vl) q (tw_A (cX vl) u) s.heap u z H locs → lv_has ls 7 [(0, .ref (u r0)), (1, .ref (u r1)), (2, .int x2), (3, .int x3), (4, .int x4), (5, .int x5)] → c_X4_numberRows vl K k 1 x2 x3 x4 x5 x6 r0 r1 z = some (r, z1) → W p l e ({ frames := 2, cells := 0, slots := 0, locals := 46 } : Room) s m args below meth c H locs 0 0 QQ (F0 m 19 ls [])) ∧ (∀ (x2 : Int32) (x3 : Int32) (x4 : Int32) (x5 : Int32) (x6 : Int32) (r0 : Nat) (r1 : Nat) (z : ow_MS) (H : Heap) (locs : List Loc) (ls : Array Slot), cw_X4 r0 → cw_X7 r1 → uw_M D vwCl (cX vl) q (tw_A (cX vl) u) s.heap u z H locs → lv_has ls 7 [(0, .ref (u r0)), (1, .ref (u r1)), (2, .int x2), (3, .int x3), (4, .int x4), (5, .int x5), (6, .int x6)] → c_X4_numberRows vl K k 2 x2 x3 x4 x5 x6 r0 r1 z = some (r, z1) → W p l e ({ frames := 2, cells := 0, slots := 0, locals := 46 } : Room) s m args below meth c H locs 0 0 QQ (F0 m 86 ls [])) := by
    intro k
    induction k with
    | zero => exact ⟨fun _ _ _ _ _ _ _ _ _ _ _ _ _ _ _ hq => cw_no hq, fun _ _ _ _ _ _ _ _ _ _ _ _ _ _ _ hq => cw_no hq, fun _ _ _ _ _ _ _ _ _ _ _ _ _ _ _ hq => cw_no hq⟩
    | succ k ih =>
      obtain ⟨ih_0, ih_1, ih_2⟩ := ih
      refine ⟨?_, ?_, ?_⟩
      · intro x2 x3 x4 x5 x6 r0 r1 z H locs ls hr0 hr1 hM hl hq
        have hq : cm_X4_numberRows_0 vl K (c_X4_numberRows vl K k) x2 x3 x4 x5 x6 r0 r1 z = some (r, z1) := hq
        unfold cm_X4_numberRows_0 at hq
        refine lv_aload_n hx hb dcX4_numberRows_0 rfl (lv_at hl 0 rfl) ?_
        refine vgX4_18 hx hb hT hown hK hM hr0 dcX4_numberRows_1 ?_
        refine lv_iconst (v := 0) hx hb dcX4_numberRows_4 (by decide) ?_
        refine lv_aload_n hx hb dcX4_numberRows_5 rfl (lv_at hl 0 rfl) ?_
        refine vgX4_55 hx hb hT hown hK hM hr0 hq dcX4_numberRows_6 (fun v1 hq => ?_)
        refine lv_iconst (v := (-1)) hx hb dcX4_numberRows_9 (by decide) ?_
        obtain ⟨z2, hcq, hq⟩ := tw_cl0 hq
        refine uw_calv hU hM (va_runS (As := [.ref (u (r0 + 4)), .int 0, .int v1, .int (-1)]) (rest := []) ⟨hx, hb, hml, hown, hts⟩ (kc_J7_fill_fda19 l D q vl u hU.1 K (r0 + 4) 0 v1 (-1) (cr_X4_3 hr0) z z2 hcq) (va_cwS 4 hts (tw_gS wC_good xq_347 xq_62 xq_9 xq_63) rfl rfl rfl cdd_J7_fill_fda19 ⟨(Nat.le_of_ble_eq_true rfl), (Nat.le_of_ble_eq_true rfl)⟩) (cw_preS hK hM) rfl rfl hl.1 rfl (lv_room (Nat.le_of_ble_eq_true rfl)) dcX4_numberRows_10 ⟨(Nat.le_of_ble_eq_true rfl), (Nat.le_of_ble_eq_true rfl)⟩) (fun H locs hM => ?_)
        refine lv_iconst (v := 0) hx hb dcX4_numberRows_13 (by decide) ?_
        refine lv_istore (lv' := [(4, .int 0), (0, .ref (u r0)), (1, .ref (u r1)), (2, .int x2), (3, .int x3)]) hx hb dcX4_numberRows_14 hl (by decide) rfl (fun ls hl => ?_)
        refine lv_iconst (v := 0) hx hb dcX4_numberRows_16 (by decide) ?_
        refine lv_istore (lv' := [(5, .int 0), (4, .int 0), (0, .ref (u r0)), (1, .ref (u r1)), (2, .int x2), (3, .int x3)]) hx hb dcX4_numberRows_17 hl (by decide) rfl (fun ls hl => ?_)
        exact ih_1 x2 x3 0 0 0 r0 r1 z2 H locs ls hr0 hr1 hM (lv_sub hl [2, 3, 4, 5, 1, 0] rfl) hq
      · intro x2 x3 x4 x5 x6 r0 r1 z H locs ls hr0 hr1 hM hl hq
        have hq : cm_X4_numberRows_1 vl K (c_X4_numberRows vl K k) x2 x3 x4 x5 x6 r0 r1 z = some (r, z1) := hq
        unfold cm_X4_numberRows_1 at hq
        refine lv_iload hx hb dcX4_numberRows_19 (lv_at hl 5 rfl) ?_
        refine lv_iconst (v := 4) hx hb dcX4_numberRows_21 (by decide) ?_
        refine lv_aload_n hx hb dcX4_numberRows_22 rfl (lv_at hl 1 rfl) ?_
        refine vgX4_45 hx hb hT hown hK hM hr1 hq dcX4_numberRows_23 (fun v3 hq => ?_)
        refine lv_imul hx hb dcX4_numberRows_26 ?_
        refine lv_icmp_ge (tgt := 92) hx hb dcX4_numberRows_27 (by decide) (fun hc => ?_) (fun hc => ?_)
        · have hq := tw_it hq hc
          refine lv_iload hx hb dcX4_numberRows_92 (lv_at hl 4 rfl) ?_
          exact cw_iret hx hb hr hlocks hM hq hQQ dcX4_numberRows_94
        · have hq := tw_if hq hc
          refine lv_aload_n hx hb dcX4_numberRows_30 rfl (lv_at hl 0 rfl) ?_
          refine vgX4_9 hx hb hT hown hK hM hr0 dcX4_numberRows_31 ?_
          refine lv_iload hx hb dcX4_numberRows_34 (lv_at hl 5 rfl) ?_
          refine uw_iald cX_ok hx hb hK hM (cr_X4_0 hr0) hq dcX4_numberRows_36 (fun v4 hq => ?_)
          refine lv_istore (lv' := [(6, .int v4), (0, .ref (u r0)), (1, .ref (u r1)), (2, .int x2), (3, .int x3), (4, .int x4), (5, .int x5)]) hx hb dcX4_numberRows_37 hl (by decide) rfl (fun ls hl => ?_)
          refine lv_aload_n hx hb dcX4_numberRows_39 rfl (lv_at hl 2 rfl) ?_
          refine vgX4_83 hx hb hT hown hK hM hr1 dcX4_numberRows_40 ?_
          refine lv_iload hx hb dcX4_numberRows_43 (lv_at hl 6 rfl) ?_
          refine lv_iconst (v := 1) hx hb dcX4_numberRows_45 (by decide) ?_
          refine lv_ishr hx hb dcX4_numberRows_46 ?_
          refine uw_iald cX_ok hx hb hK hM (cr_X7_5 hr1) hq dcX4_numberRows_47 (fun v5 hq => ?_)
          refine lv_iload_n hx hb dcX4_numberRows_48 rfl (lv_at hl 3 rfl) ?_
          refine lv_icmp_ne (tgt := 86) hx hb dcX4_numberRows_49 (by decide) (fun hc => ?_) (fun hc => ?_)
          · have hq := tw_if hq hc
            exact ih_2 x2 x3 x4 x5 v4 r0 r1 z H locs ls hr0 hr1 hM (lv_sub hl [1, 2, 3, 4, 5, 6, 0] rfl) hq
          · have hq := tw_it hq hc
            refine lv_aload_n hx hb dcX4_numberRows_52 rfl (lv_at hl 1 rfl) ?_
            refine vgX4_15 hx hb hT hown hK hM hr0 dcX4_numberRows_53 ?_
            refine lv_iload hx hb dcX4_numberRows_56 (lv_at hl 0 rfl) ?_
            refine uw_iald cX_ok hx hb hK hM (cr_X4_2 hr0) hq dcX4_numberRows_58 (fun v6 hq => ?_)
            refine lv_iload_n hx hb dcX4_numberRows_59 rfl (lv_at hl 4 rfl) ?_
            refine lv_icmp_ne (tgt := 86) hx hb dcX4_numberRows_60 (by decide) (fun hc => ?_) (fun hc => ?_)
            · have hq := tw_if hq hc
              exact ih_2 x2 x3 x4 x5 v4 r0 r1 z H locs ls hr0 hr1 hM (lv_sub hl [1, 2, 3, 4, 5, 6, 0] rfl) hq
            · have hq := tw_it hq hc
              refine lv_aload_n hx hb dcX4_numberRows_63 rfl (lv_at hl 1 rfl) ?_
              refine vgX4_18 hx hb hT hown hK hM hr0 dcX4_numberRows_64 ?_
              refine lv_iload hx hb dcX4_numberRows_67 (lv_at hl 0 rfl) ?_
              refine uw_iald cX_ok hx hb hK hM (cr_X4_3 hr0) hq dcX4_numberRows_69 (fun v7 hq => ?_)
              refine lv_iconst (v := (-1)) hx hb dcX4_numberRows_70 (by decide) ?_
              refine lv_icmp_ne (tgt := 86) hx hb dcX4_numberRows_71 (by decide) (fun hc => ?_) (fun hc => ?_)
              · have hq := tw_if hq hc
                exact ih_2 x2 x3 x4 x5 v4 r0 r1 z H locs ls hr0 hr1 hM (lv_sub hl [1, 2, 3, 4, 5, 6, 0] rfl) hq
              · have hq := tw_it hq hc
                refine lv_aload_n hx hb dcX4_numberRows_74 rfl (lv_at hl 1 rfl) ?_
                refine vgX4_18 hx hb hT hown hK hM hr0 dcX4_numberRows_75 ?_
                refine lv_iload hx hb dcX4_numberRows_78 (lv_at hl 0 rfl) ?_
                refine lv_iload hx hb dcX4_numberRows_80 (lv_at hl 5 rfl) ?_
                refine uw_iast cX_ok hU hx hb hK hM (cr_X4_3 hr0) hq dcX4_numberRows_82 (fun z8 H locs hM hq => ?_)
                refine lv_iinc (v := (x4 + 1)) (lv' := [(4, .int (x4 + 1)), (6, .int v4), (0, .ref (u r0)), (1, .ref (u r1)), (2, .int x2), (3, .int x3), (5, .int x5)]) hx hb dcX4_numberRows_83 hl (k := 5) rfl rfl (by decide) rfl (fun ls hl => ?_)
                exact ih_2 x2 x3 (x4 + 1) x5 v4 r0 r1 z8 H locs ls hr0 hr1 hM (lv_sub hl [2, 3, 4, 5, 0, 6, 1] rfl) hq
      · intro x2 x3 x4 x5 x6 r0 r1 z H locs ls hr0 hr1 hM hl hq
        have hq : cm_X4_numberRows_2 vl K (c_X4_numberRows vl K k) x2 x3 x4 x5 x6 r0 r1 z = some (r, z1) := hq
        unfold cm_X4_numberRows_2 at hq
        refine lv_iinc (v := (x5 + 1)) (lv' := [(5, .int (x5 + 1)), (0, .ref (u r0)), (1, .ref (u r1)), (2, .int x2), (3, .int x3), (4, .int x4), (6, .int x6)]) hx hb dcX4_numberRows_86 hl (k := 5) rfl rfl (by decide) rfl (fun ls hl => ?_)
        refine lv_goto (tgt := 19) hx hb dcX4_numberRows_89 (by decide) ?_
        exact ih_1 x2 x3 x4 (x5 + 1) 0 r0 r1 z H locs ls hr0 hr1 hM (lv_sub hl [1, 2, 3, 4, 5, 0] rfl) hq
  exact (key K).1 x2 x3 0 0 0 r0 r1 z s.heap [] ls hr0 hr1 hM (lv_sub hl [0, 1, 2, 3] rfl) hq
theorem dcX4_rarerColour_0 : decode cX4_rarerColour 0 = .ok (.aload_n 0, 1) := by decide +kernel
theorem dcX4_rarerColour_1 : decode cX4_rarerColour 1 = .ok (.aload_n 1, 1) := by decide +kernel
theorem dcX4_rarerColour_2 : decode cX4_rarerColour 2 = .ok (.iload_n 2, 1) := by decide +kernel
theorem dcX4_rarerColour_3 : decode cX4_rarerColour 3 = .ok (.iconst 0, 1) := by decide +kernel
theorem dcX4_rarerColour_4 : decode cX4_rarerColour 4 = .ok (.invokevirtual 86, 3) := by decide +kernel
theorem dcX4_rarerColour_7 : decode cX4_rarerColour 7 = .ok (.istore_n 3, 1) := by decide +kernel
theorem dcX4_rarerColour_8 : decode cX4_rarerColour 8 = .ok (.aload_n 0, 1) := by decide +kernel
theorem dcX4_rarerColour_9 : decode cX4_rarerColour 9 = .ok (.aload_n 1, 1) := by decide +kernel
theorem dcX4_rarerColour_10 : decode cX4_rarerColour 10 = .ok (.iload_n 2, 1) := by decide +kernel
theorem dcX4_rarerColour_11 : decode cX4_rarerColour 11 = .ok (.iconst 1, 1) := by decide +kernel
theorem dcX4_rarerColour_12 : decode cX4_rarerColour 12 = .ok (.invokevirtual 86, 3) := by decide +kernel
theorem dcX4_rarerColour_15 : decode cX4_rarerColour 15 = .ok (.istore 4, 2) := by decide +kernel
theorem dcX4_rarerColour_17 : decode cX4_rarerColour 17 = .ok (.iload_n 3, 1) := by decide +kernel
theorem dcX4_rarerColour_18 : decode cX4_rarerColour 18 = .ok (.iload 4, 2) := by decide +kernel
theorem dcX4_rarerColour_20 : decode cX4_rarerColour 20 = .ok (.if_icmp .gt 7, 3) := by decide +kernel
theorem dcX4_rarerColour_23 : decode cX4_rarerColour 23 = .ok (.iconst 0, 1) := by decide +kernel
theorem dcX4_rarerColour_24 : decode cX4_rarerColour 24 = .ok (.goto 4, 3) := by decide +kernel
theorem dcX4_rarerColour_27 : decode cX4_rarerColour 27 = .ok (.iconst 1, 1) := by decide +kernel
theorem dcX4_rarerColour_28 : decode cX4_rarerColour 28 = .ok (.ireturn, 1) := by decide +kernel
def cm_X4_rarerColour_0 (vl : Nat → Nat) (K : Nat) (x2 : Int32) (r0 : Nat) (r1 : Nat) (z : ow_MS) : Option (Int32 × ow_MS) :=
 cs1 (ce_X4_numberRows vl K r0 r1 x2 0 z) fun v2 z1 => cs1 (ce_X4_numberRows vl K r0 r1 x2 1 z1) fun v4 z3 => (if v4 < v2 then some (1, z3)
 else some (0, z3))
def ce_X4_rarerColour (vl : Nat → Nat) (K : Nat) (r0 : Nat) (r1 : Nat) (x2 : Int32) (z : ow_MS) : Option (Int32 × ow_MS) := cm_X4_rarerColour_0 vl K x2 r0 r1 z
abbrev wc_X4_rarerColour : List Cond := .code yX4_rarerColour cX4_rarerColour 5 (some .int) :: wC
theorem cdd_X4_rarerColour : yX4_rarerColour.cls = RX4 ∧ yX4_rarerColour.cls ≠ "java/lang/invoke/MethodHandle" ∧ yX4_rarerColour.cls ≠ "java/lang/invoke/VarHandle" ∧ (parseMethodDescriptor yX4_rarerColour.desc).map (fun d => d.parameters.length) = some 2 := by decide +kernel
set_option maxHeartbeats 4000000 in
set_option maxRecDepth 100000 in
theorem kc_X4_rarerColour (l : Launch) (D : va_G) (q : Nat → ClassId) (vl u : Nat → Nat) (hU0 : tw_inj (cX vl) u) (K : Nat) (r0 : Nat) (r1 : Nat) (x2 : Int32) (hr0 : cw_X4 r0) (hr1 : cw_X7 r1) (z z1 : ow_MS) (r : Int32) (hq : ce_X4_rarerColour vl K r0 r1 x2 z = some (r, z1)) : Met l yX4_rarerColour wc_X4_rarerColour ({ frames := 3, cells := 0, slots := 0, locals := 72 } : Room) (va_Pc [.ref (u r0), .ref (u r1), .int x2] (cw_pre D q vl u z)) (va_Qi (fun x (_ : Unit) => x = r) (fun _ t => va_P D vwCl (uw (cX vl) q u z1) t.heap) (tw_A (cX vl) u)) 0 0 (tw_A (cX vl) u) := by
  refine Met.ofW (cc := cX4_rarerColour) (maxL := 5) (ret := (some .int)) (by decide) rfl ?_
  intro p e s m args below meth c s₁ B hml hv
  obtain ⟨rfl, hP, hK⟩ := hv
  have hx := B.exec
  have hb := B.bytes
  have hr := B.returns
  have hts := atoms_spec (ws := wc_X4_rarerColour) B.pre
  have hT : ∀ w ∈ wC, w.before ([.ref (u r0), .ref (u r1), .int x2] : List Value).toArray s = true := fun w h => hts w (List.mem_cons_of_mem _ h)
  have hown : s.vm.findClass RX4 = some m.cls := findClass_of_methodNamed B.named
  have hlocks := B.notSynchronized
  have hU : uw_inj (cX vl) u (tw_A (cX vl) u) := ⟨hU0, fun h hh => ⟨h, hh, rfl⟩⟩
  have hM : uw_M D vwCl (cX vl) q (tw_A (cX vl) u) s.heap u z s.heap [] := ⟨hP, va_S.rf⟩
  have hl := lv_entry ([.ref (u r0), .ref (u r1), .int x2]) (n := 5) (Nat.le_of_ble_eq_true rfl)
  rw [lg_entry_eq]
  generalize (lg_sl ([.ref (u r0), .ref (u r1), .int x2]) ++ List.replicate (5 - (lg_sl ([.ref (u r0), .ref (u r1), .int x2])).length) Slot.unset).toArray = ls at hl ⊢
  have hl : lv_has ls 5 [(0, .ref (u r0)), (1, .ref (u r1)), (2, .int x2)] := hl
  refine ow_named (fun QQ hQQ => ?_)
  generalize ([.ref (u r0), .ref (u r1), .int x2] : List Value).toArray = args at hts hT hQQ ⊢
  have hq : cm_X4_rarerColour_0 vl K x2 r0 r1 z = some (r, z1) := hq
  unfold cm_X4_rarerColour_0 at hq
  suffices key : ∀ (H : Heap) (locs : List Loc), uw_M D vwCl (cX vl) q (tw_A (cX vl) u) s.heap u z H locs → W p l e ({ frames := 3, cells := 0, slots := 0, locals := 72 } : Room) s m args below meth c H locs 0 0 QQ (F0 m 0 ls []) from key s.heap [] hM
  intro H locs hM
  refine lv_aload_n hx hb dcX4_rarerColour_0 rfl (lv_at hl 0 rfl) ?_
  refine lv_aload_n hx hb dcX4_rarerColour_1 rfl (lv_at hl 1 rfl) ?_
  refine lv_iload_n hx hb dcX4_rarerColour_2 rfl (lv_at hl 2 rfl) ?_
  refine lv_iconst (v := 0) hx hb dcX4_rarerColour_3 (by decide) ?_
  obtain ⟨v2, z1, hcq, hq⟩ := tw_cl1 hq
  refine uw_cali hU hM (va_runV (As := [.ref (u r1), .int x2, .int 0]) (rest := []) ⟨hx, hb, hml, hown, hts⟩ (kc_X4_numberRows l D q vl u hU.1 K r0 r1 x2 0 hr0 hr1 z z1 v2 hcq) (cwV 3 hts (tw_gV wC_good xq_368 xq_369 xq_370 xq_350 xq_371) rfl rfl rfl cdd_X4_numberRows ⟨(Nat.le_of_ble_eq_true rfl), (Nat.le_of_ble_eq_true rfl)⟩) (cw_preV hK hM (co_X4 hr0) rfl) rfl rfl hl.1 rfl (lv_room (Nat.le_of_ble_eq_true rfl)) dcX4_rarerColour_4 ⟨(Nat.le_of_ble_eq_true rfl), (Nat.le_of_ble_eq_true rfl)⟩) (fun H locs hM => ?_)
  refine lv_istore_n (lv' := [(3, .int v2), (0, .ref (u r0)), (1, .ref (u r1)), (2, .int x2)]) hx hb dcX4_rarerColour_7 rfl hl (by decide) rfl (fun ls hl => ?_)
  refine lv_aload_n hx hb dcX4_rarerColour_8 rfl (lv_at hl 1 rfl) ?_
  refine lv_aload_n hx hb dcX4_rarerColour_9 rfl (lv_at hl 2 rfl) ?_
  refine lv_iload_n hx hb dcX4_rarerColour_10 rfl (lv_at hl 3 rfl) ?_
  refine lv_iconst (v := 1) hx hb dcX4_rarerColour_11 (by decide) ?_
  obtain ⟨v4, z3, hcq, hq⟩ := tw_cl1 hq
  refine uw_cali hU hM (va_runV (As := [.ref (u r1), .int x2, .int 1]) (rest := []) ⟨hx, hb, hml, hown, hts⟩ (kc_X4_numberRows l D q vl u hU.1 K r0 r1 x2 1 hr0 hr1 z1 z3 v4 hcq) (cwV 3 hts (tw_gV wC_good xq_368 xq_369 xq_370 xq_350 xq_371) rfl rfl rfl cdd_X4_numberRows ⟨(Nat.le_of_ble_eq_true rfl), (Nat.le_of_ble_eq_true rfl)⟩) (cw_preV hK hM (co_X4 hr0) rfl) rfl rfl hl.1 rfl (lv_room (Nat.le_of_ble_eq_true rfl)) dcX4_rarerColour_12 ⟨(Nat.le_of_ble_eq_true rfl), (Nat.le_of_ble_eq_true rfl)⟩) (fun H locs hM => ?_)
  refine lv_istore (lv' := [(4, .int v4), (3, .int v2), (0, .ref (u r0)), (1, .ref (u r1)), (2, .int x2)]) hx hb dcX4_rarerColour_15 hl (by decide) rfl (fun ls hl => ?_)
  refine lv_iload_n hx hb dcX4_rarerColour_17 rfl (lv_at hl 1 rfl) ?_
  refine lv_iload hx hb dcX4_rarerColour_18 (lv_at hl 0 rfl) ?_
  refine lv_icmp_gt (tgt := 27) hx hb dcX4_rarerColour_20 (by decide) (fun hc => ?_) (fun hc => ?_)
  · have hq := tw_it hq hc
    refine lv_iconst (v := 1) hx hb dcX4_rarerColour_27 (by decide) ?_
    exact cw_iret hx hb hr hlocks hM hq hQQ dcX4_rarerColour_28
  · have hq := tw_if hq hc
    refine lv_iconst (v := 0) hx hb dcX4_rarerColour_23 (by decide) ?_
    refine lv_goto (tgt := 28) hx hb dcX4_rarerColour_24 (by decide) ?_
    exact cw_iret hx hb hr hlocks hM hq hQQ dcX4_rarerColour_28
theorem dcX4_addAt_0 : decode cX4_addAt 0 = .ok (.iload_n 1, 1) := dw_at cX4_addAt_k0 (p := 0) rfl (by decide +kernel)
theorem dcX4_addAt_1 : decode cX4_addAt 1 = .ok (.ifCond .lt 25, 3) := dw_at cX4_addAt_k0 (p := 1) rfl (by decide +kernel)
theorem dcX4_addAt_4 : decode cX4_addAt 4 = .ok (.iload_n 1, 1) := dw_at cX4_addAt_k0 (p := 4) rfl (by decide +kernel)
theorem dcX4_addAt_5 : decode cX4_addAt 5 = .ok (.iload 4, 2) := dw_at cX4_addAt_k0 (p := 5) rfl (by decide +kernel)
theorem dcX4_addAt_7 : decode cX4_addAt 7 = .ok (.if_icmp .ge 19, 3) := dw_at cX4_addAt_k0 (p := 7) rfl (by decide +kernel)
theorem dcX4_addAt_10 : decode cX4_addAt 10 = .ok (.aload_n 0, 1) := dw_at cX4_addAt_k0 (p := 10) rfl (by decide +kernel)
theorem dcX4_addAt_11 : decode cX4_addAt 11 = .ok (.getfield 21, 3) := dw_at cX4_addAt_k0 (p := 11) rfl (by decide +kernel)
theorem dcX4_addAt_14 : decode cX4_addAt 14 = .ok (.iload_n 1, 1) := dw_at cX4_addAt_k0 (p := 14) rfl (by decide +kernel)
theorem dcX4_addAt_15 : decode cX4_addAt 15 = .ok (.bipush 8, 2) := dw_at cX4_addAt_k0 (p := 15) rfl (by decide +kernel)
theorem dcX4_addAt_17 : decode cX4_addAt 17 = .ok (.imul, 1) := dw_at cX4_addAt_k0 (p := 17) rfl (by decide +kernel)
theorem dcX4_addAt_18 : decode cX4_addAt 18 = .ok (.iload_n 1, 1) := dw_at cX4_addAt_k0 (p := 18) rfl (by decide +kernel)
theorem dcX4_addAt_19 : decode cX4_addAt 19 = .ok (.iadd, 1) := dw_at cX4_addAt_k0 (p := 19) rfl (by decide +kernel)
theorem dcX4_addAt_20 : decode cX4_addAt 20 = .ok (.dup2, 1) := dw_at cX4_addAt_k0 (p := 20) rfl (by decide +kernel)
theorem dcX4_addAt_21 : decode cX4_addAt 21 = .ok (.laload, 1) := dw_at cX4_addAt_k0 (p := 21) rfl (by decide +kernel)
theorem dcX4_addAt_22 : decode cX4_addAt 22 = .ok (.iload_n 3, 1) := dw_at cX4_addAt_k0 (p := 22) rfl (by decide +kernel)
theorem dcX4_addAt_23 : decode cX4_addAt 23 = .ok (.i2l, 1) := dw_at cX4_addAt_k0 (p := 23) rfl (by decide +kernel)
theorem dcX4_addAt_24 : decode cX4_addAt 24 = .ok (.ladd, 1) := dw_at cX4_addAt_k1 (p := 0) rfl (by decide +kernel)
theorem dcX4_addAt_25 : decode cX4_addAt 25 = .ok (.lastore, 1) := dw_at cX4_addAt_k1 (p := 1) rfl (by decide +kernel)
theorem dcX4_addAt_26 : decode cX4_addAt 26 = .ok (.iload_n 2, 1) := dw_at cX4_addAt_k1 (p := 2) rfl (by decide +kernel)
theorem dcX4_addAt_27 : decode cX4_addAt 27 = .ok (.ifCond .lt 25, 3) := dw_at cX4_addAt_k1 (p := 3) rfl (by decide +kernel)
theorem dcX4_addAt_30 : decode cX4_addAt 30 = .ok (.iload_n 2, 1) := dw_at cX4_addAt_k1 (p := 6) rfl (by decide +kernel)
theorem dcX4_addAt_31 : decode cX4_addAt 31 = .ok (.iload 4, 2) := dw_at cX4_addAt_k1 (p := 7) rfl (by decide +kernel)
theorem dcX4_addAt_33 : decode cX4_addAt 33 = .ok (.if_icmp .ge 19, 3) := dw_at cX4_addAt_k1 (p := 9) rfl (by decide +kernel)
theorem dcX4_addAt_36 : decode cX4_addAt 36 = .ok (.aload_n 0, 1) := dw_at cX4_addAt_k1 (p := 12) rfl (by decide +kernel)
theorem dcX4_addAt_37 : decode cX4_addAt 37 = .ok (.getfield 21, 3) := dw_at cX4_addAt_k1 (p := 13) rfl (by decide +kernel)
theorem dcX4_addAt_40 : decode cX4_addAt 40 = .ok (.iload_n 2, 1) := dw_at cX4_addAt_k1 (p := 16) rfl (by decide +kernel)
theorem dcX4_addAt_41 : decode cX4_addAt 41 = .ok (.bipush 8, 2) := dw_at cX4_addAt_k1 (p := 17) rfl (by decide +kernel)
theorem dcX4_addAt_43 : decode cX4_addAt 43 = .ok (.imul, 1) := dw_at cX4_addAt_k1 (p := 19) rfl (by decide +kernel)
theorem dcX4_addAt_44 : decode cX4_addAt 44 = .ok (.iload_n 2, 1) := dw_at cX4_addAt_k1 (p := 20) rfl (by decide +kernel)
theorem dcX4_addAt_45 : decode cX4_addAt 45 = .ok (.iadd, 1) := dw_at cX4_addAt_k1 (p := 21) rfl (by decide +kernel)
theorem dcX4_addAt_46 : decode cX4_addAt 46 = .ok (.dup2, 1) := dw_at cX4_addAt_k1 (p := 22) rfl (by decide +kernel)
theorem dcX4_addAt_47 : decode cX4_addAt 47 = .ok (.laload, 1) := dw_at cX4_addAt_k1 (p := 23) rfl (by decide +kernel)
theorem dcX4_addAt_48 : decode cX4_addAt 48 = .ok (.iload_n 3, 1) := dw_at cX4_addAt_k2 (p := 0) rfl (by decide +kernel)
theorem dcX4_addAt_49 : decode cX4_addAt 49 = .ok (.i2l, 1) := dw_at cX4_addAt_k2 (p := 1) rfl (by decide +kernel)
theorem dcX4_addAt_50 : decode cX4_addAt 50 = .ok (.ladd, 1) := dw_at cX4_addAt_k2 (p := 2) rfl (by decide +kernel)
theorem dcX4_addAt_51 : decode cX4_addAt 51 = .ok (.lastore, 1) := dw_at cX4_addAt_k2 (p := 3) rfl (by decide +kernel)
theorem dcX4_addAt_52 : decode cX4_addAt 52 = .ok (.iload_n 1, 1) := dw_at cX4_addAt_k2 (p := 4) rfl (by decide +kernel)
theorem dcX4_addAt_53 : decode cX4_addAt 53 = .ok (.ifCond .lt 51, 3) := dw_at cX4_addAt_k2 (p := 5) rfl (by decide +kernel)
theorem dcX4_addAt_56 : decode cX4_addAt 56 = .ok (.iload_n 1, 1) := dw_at cX4_addAt_k2 (p := 8) rfl (by decide +kernel)
theorem dcX4_addAt_57 : decode cX4_addAt 57 = .ok (.iload 4, 2) := dw_at cX4_addAt_k2 (p := 9) rfl (by decide +kernel)
theorem dcX4_addAt_59 : decode cX4_addAt 59 = .ok (.if_icmp .ge 45, 3) := dw_at cX4_addAt_k2 (p := 11) rfl (by decide +kernel)
theorem dcX4_addAt_62 : decode cX4_addAt 62 = .ok (.iload_n 2, 1) := dw_at cX4_addAt_k2 (p := 14) rfl (by decide +kernel)
theorem dcX4_addAt_63 : decode cX4_addAt 63 = .ok (.ifCond .lt 41, 3) := dw_at cX4_addAt_k2 (p := 15) rfl (by decide +kernel)
theorem dcX4_addAt_66 : decode cX4_addAt 66 = .ok (.iload_n 2, 1) := dw_at cX4_addAt_k2 (p := 18) rfl (by decide +kernel)
theorem dcX4_addAt_67 : decode cX4_addAt 67 = .ok (.iload 4, 2) := dw_at cX4_addAt_k2 (p := 19) rfl (by decide +kernel)
theorem dcX4_addAt_69 : decode cX4_addAt 69 = .ok (.if_icmp .ge 35, 3) := dw_at cX4_addAt_k2 (p := 21) rfl (by decide +kernel)
theorem dcX4_addAt_72 : decode cX4_addAt 72 = .ok (.aload_n 0, 1) := dw_at cX4_addAt_k3 (p := 0) rfl (by decide +kernel)
theorem dcX4_addAt_73 : decode cX4_addAt 73 = .ok (.getfield 21, 3) := dw_at cX4_addAt_k3 (p := 1) rfl (by decide +kernel)
theorem dcX4_addAt_76 : decode cX4_addAt 76 = .ok (.iload_n 1, 1) := dw_at cX4_addAt_k3 (p := 4) rfl (by decide +kernel)
theorem dcX4_addAt_77 : decode cX4_addAt 77 = .ok (.bipush 8, 2) := dw_at cX4_addAt_k3 (p := 5) rfl (by decide +kernel)
theorem dcX4_addAt_79 : decode cX4_addAt 79 = .ok (.imul, 1) := dw_at cX4_addAt_k3 (p := 7) rfl (by decide +kernel)
theorem dcX4_addAt_80 : decode cX4_addAt 80 = .ok (.iload_n 2, 1) := dw_at cX4_addAt_k3 (p := 8) rfl (by decide +kernel)
theorem dcX4_addAt_81 : decode cX4_addAt 81 = .ok (.iadd, 1) := dw_at cX4_addAt_k3 (p := 9) rfl (by decide +kernel)
theorem dcX4_addAt_82 : decode cX4_addAt 82 = .ok (.dup2, 1) := dw_at cX4_addAt_k3 (p := 10) rfl (by decide +kernel)
theorem dcX4_addAt_83 : decode cX4_addAt 83 = .ok (.laload, 1) := dw_at cX4_addAt_k3 (p := 11) rfl (by decide +kernel)
theorem dcX4_addAt_84 : decode cX4_addAt 84 = .ok (.iload_n 3, 1) := dw_at cX4_addAt_k3 (p := 12) rfl (by decide +kernel)
theorem dcX4_addAt_85 : decode cX4_addAt 85 = .ok (.i2l, 1) := dw_at cX4_addAt_k3 (p := 13) rfl (by decide +kernel)
theorem dcX4_addAt_86 : decode cX4_addAt 86 = .ok (.lsub, 1) := dw_at cX4_addAt_k3 (p := 14) rfl (by decide +kernel)
theorem dcX4_addAt_87 : decode cX4_addAt 87 = .ok (.lastore, 1) := dw_at cX4_addAt_k3 (p := 15) rfl (by decide +kernel)
theorem dcX4_addAt_88 : decode cX4_addAt 88 = .ok (.aload_n 0, 1) := dw_at cX4_addAt_k3 (p := 16) rfl (by decide +kernel)
theorem dcX4_addAt_89 : decode cX4_addAt 89 = .ok (.getfield 21, 3) := dw_at cX4_addAt_k3 (p := 17) rfl (by decide +kernel)
theorem dcX4_addAt_92 : decode cX4_addAt 92 = .ok (.iload_n 2, 1) := dw_at cX4_addAt_k3 (p := 20) rfl (by decide +kernel)
theorem dcX4_addAt_93 : decode cX4_addAt 93 = .ok (.bipush 8, 2) := dw_at cX4_addAt_k3 (p := 21) rfl (by decide +kernel)
theorem dcX4_addAt_95 : decode cX4_addAt 95 = .ok (.imul, 1) := dw_at cX4_addAt_k3 (p := 23) rfl (by decide +kernel)
theorem dcX4_addAt_96 : decode cX4_addAt 96 = .ok (.iload_n 1, 1) := dw_at cX4_addAt_k4 (p := 0) rfl (by decide +kernel)
theorem dcX4_addAt_97 : decode cX4_addAt 97 = .ok (.iadd, 1) := dw_at cX4_addAt_k4 (p := 1) rfl (by decide +kernel)
theorem dcX4_addAt_98 : decode cX4_addAt 98 = .ok (.dup2, 1) := dw_at cX4_addAt_k4 (p := 2) rfl (by decide +kernel)
theorem dcX4_addAt_99 : decode cX4_addAt 99 = .ok (.laload, 1) := dw_at cX4_addAt_k4 (p := 3) rfl (by decide +kernel)
theorem dcX4_addAt_100 : decode cX4_addAt 100 = .ok (.iload_n 3, 1) := dw_at cX4_addAt_k4 (p := 4) rfl (by decide +kernel)
theorem dcX4_addAt_101 : decode cX4_addAt 101 = .ok (.i2l, 1) := dw_at cX4_addAt_k4 (p := 5) rfl (by decide +kernel)
theorem dcX4_addAt_102 : decode cX4_addAt 102 = .ok (.lsub, 1) := dw_at cX4_addAt_k4 (p := 6) rfl (by decide +kernel)
theorem dcX4_addAt_103 : decode cX4_addAt 103 = .ok (.lastore, 1) := dw_at cX4_addAt_k4 (p := 7) rfl (by decide +kernel)
theorem dcX4_addAt_104 : decode cX4_addAt 104 = .ok (.return_, 1) := dw_at cX4_addAt_k4 (p := 8) rfl (by decide +kernel)
def cm_X4_addAt_0 (vl : Nat → Nat) (K : Nat) (go : Nat → Int32 → Int32 → Int32 → Int32 → Nat → ow_MS → Option ow_MS) (x1 : Int32) (x2 : Int32) (x3 : Int32) (x4 : Int32) (r0 : Nat) (z : ow_MS) : Option ow_MS :=
 (if x1 < 0 then go 1 x1 x2 x3 x4 r0 z
 else (if x4 ≤ x1 then go 1 x1 x2 x3 x4 r0 z
 else crJ (cX vl) z (r0 + 5) ((x1 * 8) + x1) fun v1 => ctJ (cX vl) z (r0 + 5) ((x1 * 8) + x1) (v1 + x3.toInt64) fun z2 => go 1 x1 x2 x3 x4 r0 z2))
def cm_X4_addAt_1 (vl : Nat → Nat) (K : Nat) (go : Nat → Int32 → Int32 → Int32 → Int32 → Nat → ow_MS → Option ow_MS) (x1 : Int32) (x2 : Int32) (x3 : Int32) (x4 : Int32) (r0 : Nat) (z : ow_MS) : Option ow_MS :=
 (if x2 < 0 then go 2 x1 x2 x3 x4 r0 z
 else (if x4 ≤ x2 then go 2 x1 x2 x3 x4 r0 z
 else crJ (cX vl) z (r0 + 5) ((x2 * 8) + x2) fun v3 => ctJ (cX vl) z (r0 + 5) ((x2 * 8) + x2) (v3 + x3.toInt64) fun z4 => go 2 x1 x2 x3 x4 r0 z4))
def cm_X4_addAt_2 (vl : Nat → Nat) (K : Nat) (go : Nat → Int32 → Int32 → Int32 → Int32 → Nat → ow_MS → Option ow_MS) (x1 : Int32) (x2 : Int32) (x3 : Int32) (x4 : Int32) (r0 : Nat) (z : ow_MS) : Option ow_MS :=
 (if x1 < 0 then some z
 else (if x4 ≤ x1 then some z
 else (if x2 < 0 then some z
 else (if x4 ≤ x2 then some z
 else crJ (cX vl) z (r0 + 5) ((x1 * 8) + x2) fun v5 => ctJ (cX vl) z (r0 + 5) ((x1 * 8) + x2) (v5 - x3.toInt64) fun z6 => crJ (cX vl) z6 (r0 + 5) ((x2 * 8) + x1) fun v7 => ctJ (cX vl) z6 (r0 + 5) ((x2 * 8) + x1) (v7 - x3.toInt64) fun z8 => some z8))))
def cb_X4_addAt (vl : Nat → Nat) (K : Nat) (go : Nat → Int32 → Int32 → Int32 → Int32 → Nat → ow_MS → Option ow_MS) (L : Nat) (x1 : Int32) (x2 : Int32) (x3 : Int32) (x4 : Int32) (r0 : Nat) (z : ow_MS) : Option ow_MS := match L with
  | 0 => cm_X4_addAt_0 vl K go x1 x2 x3 x4 r0 z
  | 1 => cm_X4_addAt_1 vl K go x1 x2 x3 x4 r0 z
  | 2 => cm_X4_addAt_2 vl K go x1 x2 x3 x4 r0 z
  | _ => none
def c_X4_addAt (vl : Nat → Nat) (K : Nat) : Nat → Nat → Int32 → Int32 → Int32 → Int32 → Nat → ow_MS → Option ow_MS
  | 0 => fun _ _ _ _ _ _ _ => none
  | k + 1 => cb_X4_addAt vl K (c_X4_addAt vl K k)
def ce_X4_addAt (vl : Nat → Nat) (K : Nat) (r0 : Nat) (x1 : Int32) (x2 : Int32) (x3 : Int32) (x4 : Int32) (z : ow_MS) : Option ow_MS := c_X4_addAt vl K K 0 x1 x2 x3 x4 r0 z
abbrev wc_X4_addAt : List Cond := .code yX4_addAt cX4_addAt 5 none :: wC
theorem cdd_X4_addAt : yX4_addAt.cls = RX4 ∧ yX4_addAt.cls ≠ "java/lang/invoke/MethodHandle" ∧ yX4_addAt.cls ≠ "java/lang/invoke/VarHandle" ∧ (parseMethodDescriptor yX4_addAt.desc).map (fun d => d.parameters.length) = some 4 := by decide +kernel
set_option maxHeartbeats 4000000 in
set_option maxRecDepth 100000 in
theorem kc_X4_addAt (l : Launch) (D : va_G) (q : Nat → ClassId) (vl u : Nat → Nat) (hU0 : tw_inj (cX vl) u) (K : Nat) (r0 : Nat) (x1 : Int32) (x2 : Int32) (x3 : Int32) (x4 : Int32) (hr0 : cw_X4 r0) (z z1 : ow_MS) (hq : ce_X4_addAt vl K r0 x1 x2 x3 x4 z = some z1) : Met l yX4_addAt wc_X4_addAt ({ frames := 0, cells := 0, slots := 0, locals := 0 } : Room) (va_Pc [.ref (u r0), .int x1, .int x2, .int x3, .int x4] (cw_pre D q vl u z)) (va_Qv (fun (_ : Unit) => True) (fun _ t => va_P D vwCl (uw (cX vl) q u z1) t.heap) (tw_A (cX vl) u)) 0 0 (tw_A (cX vl) u) := by
  refine Met.ofW (cc := cX4_addAt) (maxL := 5) (ret := none) (by decide) rfl ?_
  intro p e s m args below meth c s₁ B hml hv
  obtain ⟨rfl, hP, hK⟩ := hv
  have hx := B.exec
  have hb := B.bytes
  have hr := B.returns
  have hts := atoms_spec (ws := wc_X4_addAt) B.pre
  have hT : ∀ w ∈ wC, w.before ([.ref (u r0), .int x1, .int x2, .int x3, .int x4] : List Value).toArray s = true := fun w h => hts w (List.mem_cons_of_mem _ h)
  have hown : s.vm.findClass RX4 = some m.cls := findClass_of_methodNamed B.named
  have hlocks := B.notSynchronized
  have hU : uw_inj (cX vl) u (tw_A (cX vl) u) := ⟨hU0, fun h hh => ⟨h, hh, rfl⟩⟩
  have hM : uw_M D vwCl (cX vl) q (tw_A (cX vl) u) s.heap u z s.heap [] := ⟨hP, va_S.rf⟩
  have hl := lv_entry ([.ref (u r0), .int x1, .int x2, .int x3, .int x4]) (n := 5) (Nat.le_of_ble_eq_true rfl)
  rw [lg_entry_eq]
  generalize (lg_sl ([.ref (u r0), .int x1, .int x2, .int x3, .int x4]) ++ List.replicate (5 - (lg_sl ([.ref (u r0), .int x1, .int x2, .int x3, .int x4])).length) Slot.unset).toArray = ls at hl ⊢
  have hl : lv_has ls 5 [(0, .ref (u r0)), (1, .int x1), (2, .int x2), (3, .int x3), (4, .int x4)] := hl
  refine ow_named (fun QQ hQQ => ?_)
  generalize ([.ref (u r0), .int x1, .int x2, .int x3, .int x4] : List Value).toArray = args at hts hT hQQ ⊢
  have key : ∀ k : Nat, (∀ (x1 : Int32) (x2 : Int32) (x3 : Int32) (x4 : Int32) (r0 : Nat) (z : ow_MS) (H : Heap) (locs : List Loc) (ls : Array Slot), cw_X4 r0 → uw_M D vwCl (cX vl) q (tw_A (cX vl) u) s.heap u z H locs → lv_has ls 5 [(0, .ref (u r0)), (1, .int x1), (2, .int x2), (3, .int x3), (4, .int x4)] → c_X4_addAt vl K k 0 x1 x2 x3 x4 r0 z = some z1 → W p l e ({ frames := 0, cells := 0, slots := 0, locals := 0 } : Room) s m args below meth c H locs 0 0 QQ (F0 m 0 ls [])) ∧ (∀ (x1 : Int32) (x2 : Int32) (x3 : Int32) (x4 : Int32) (r0 : Nat) (z : ow_MS) (H : Heap) (locs : List Loc) (ls : Array Slot), cw_X4 r0 → uw_M D vwCl (cX vl) q (tw_A (cX vl) u) s.heap u z H locs → lv_has ls 5 [(0, .ref (u r0)), (1, .int x1), (2, .int x2), (3, .int x3), (4, .int x4)] → c_X4_addAt vl K k 1 x1 x2 x3 x4 r0 z = some z1 → W p l e ({ frames := 0, cells := 0, slots := 0, locals := 0 } : Room) s m args below meth c H locs 0 0 QQ (F0 m 26 ls [])) ∧ (∀ (x1 : Int32) (x2 : Int32) (x3 : Int32) (x4 : Int32) (r0 : Nat) (z : ow_MS) (H : Heap) (locs : List Loc) (ls : Array Slot), cw_X4 r0 → uw_M D vwCl (cX vl) q (tw_A (cX vl) u) s.heap u z H locs → lv_has ls 5 [(0, .ref (u r0)), (1, .int x1), (2, .int x2), (3, .int x3), (4, .int x4)] → c_X4_addAt vl K k 2 x1 x2 x3 x4 r0 z = some z1 → W p l e ({ frames := 0, cells := 0, slots := 0, locals := 0 } : Room) s m args below meth c H locs 0 0 QQ (F0 m 52 ls [])) := by
    intro k
    induction k with
    | zero => exact ⟨fun _ _ _ _ _ _ _ _ _ _ _ _ hq => cw_no hq, fun _ _ _ _ _ _ _ _ _ _ _ _ hq => cw_no hq, fun _ _ _ _ _ _ _ _ _ _ _ _ hq => cw_no hq⟩
    | succ k ih =>
      obtain ⟨ih_0, ih_1, ih_2⟩ := ih
      refine ⟨?_, ?_, ?_⟩
      · intro x1 x2 x3 x4 r0 z H locs ls hr0 hM hl hq
        have hq : cm_X4_addAt_0 vl K (c_X4_addAt vl K k) x1 x2 x3 x4 r0 z = some z1 := hq
        unfold cm_X4_addAt_0 at hq
        refine lv_iload_n hx hb dcX4_addAt_0 rfl (lv_at hl 1 rfl) ?_
        refine lv_if_lt (tgt := 26) hx hb dcX4_addAt_1 (by decide) (fun hc => ?_) (fun hc => ?_)
        · have hq := tw_it hq hc
          exact ih_1 x1 x2 x3 x4 r0 z H locs ls hr0 hM (lv_sub hl [0, 1, 2, 3, 4] rfl) hq
        · have hq := tw_if hq hc
          refine lv_iload_n hx hb dcX4_addAt_4 rfl (lv_at hl 1 rfl) ?_
          refine lv_iload hx hb dcX4_addAt_5 (lv_at hl 4 rfl) ?_
          refine lv_icmp_ge (tgt := 26) hx hb dcX4_addAt_7 (by decide) (fun hc => ?_) (fun hc => ?_)
          · have hq := tw_it hq hc
            exact ih_1 x1 x2 x3 x4 r0 z H locs ls hr0 hM (lv_sub hl [0, 1, 2, 3, 4] rfl) hq
          · have hq := tw_if hq hc
            refine lv_aload_n hx hb dcX4_addAt_10 rfl (lv_at hl 0 rfl) ?_
            refine vgX4_21 hx hb hT hown hK hM hr0 dcX4_addAt_11 ?_
            refine lv_iload_n hx hb dcX4_addAt_14 rfl (lv_at hl 1 rfl) ?_
            refine lv_bipush (v := 8) hx hb dcX4_addAt_15 (by decide) ?_
            refine lv_imul hx hb dcX4_addAt_17 ?_
            refine lv_iload_n hx hb dcX4_addAt_18 rfl (lv_at hl 1 rfl) ?_
            refine lv_iadd hx hb dcX4_addAt_19 ?_
            refine lv_dup2_11 hx hb dcX4_addAt_20 rfl rfl ?_
            refine uw_lald cX_ok hx hb hK hM (cr_X4_4 hr0) hq dcX4_addAt_21 (fun v1 hq => ?_)
            refine lv_iload_n hx hb dcX4_addAt_22 rfl (lv_at hl 3 rfl) ?_
            refine lv_i2l hx hb dcX4_addAt_23 rfl ?_
            refine lv_ladd hx hb dcX4_addAt_24 ?_
            refine uw_last cX_ok hU hx hb hK hM (cr_X4_4 hr0) hq dcX4_addAt_25 (fun z2 H locs hM hq => ?_)
            exact ih_1 x1 x2 x3 x4 r0 z2 H locs ls hr0 hM (lv_sub hl [0, 1, 2, 3, 4] rfl) hq
      · intro x1 x2 x3 x4 r0 z H locs ls hr0 hM hl hq
        have hq : cm_X4_addAt_1 vl K (c_X4_addAt vl K k) x1 x2 x3 x4 r0 z = some z1 := hq
        unfold cm_X4_addAt_1 at hq
        refine lv_iload_n hx hb dcX4_addAt_26 rfl (lv_at hl 2 rfl) ?_
        refine lv_if_lt (tgt := 52) hx hb dcX4_addAt_27 (by decide) (fun hc => ?_) (fun hc => ?_)
        · have hq := tw_it hq hc
          exact ih_2 x1 x2 x3 x4 r0 z H locs ls hr0 hM (lv_sub hl [0, 1, 2, 3, 4] rfl) hq
        · have hq := tw_if hq hc
          refine lv_iload_n hx hb dcX4_addAt_30 rfl (lv_at hl 2 rfl) ?_
          refine lv_iload hx hb dcX4_addAt_31 (lv_at hl 4 rfl) ?_
          refine lv_icmp_ge (tgt := 52) hx hb dcX4_addAt_33 (by decide) (fun hc => ?_) (fun hc => ?_)
          · have hq := tw_it hq hc
            exact ih_2 x1 x2 x3 x4 r0 z H locs ls hr0 hM (lv_sub hl [0, 1, 2, 3, 4] rfl) hq
          · have hq := tw_if hq hc
            refine lv_aload_n hx hb dcX4_addAt_36 rfl (lv_at hl 0 rfl) ?_
            refine vgX4_21 hx hb hT hown hK hM hr0 dcX4_addAt_37 ?_
            refine lv_iload_n hx hb dcX4_addAt_40 rfl (lv_at hl 2 rfl) ?_
            refine lv_bipush (v := 8) hx hb dcX4_addAt_41 (by decide) ?_
            refine lv_imul hx hb dcX4_addAt_43 ?_
            refine lv_iload_n hx hb dcX4_addAt_44 rfl (lv_at hl 2 rfl) ?_
            refine lv_iadd hx hb dcX4_addAt_45 ?_
            refine lv_dup2_11 hx hb dcX4_addAt_46 rfl rfl ?_
            refine uw_lald cX_ok hx hb hK hM (cr_X4_4 hr0) hq dcX4_addAt_47 (fun v3 hq => ?_)
            refine lv_iload_n hx hb dcX4_addAt_48 rfl (lv_at hl 3 rfl) ?_
            refine lv_i2l hx hb dcX4_addAt_49 rfl ?_
            refine lv_ladd hx hb dcX4_addAt_50 ?_
            refine uw_last cX_ok hU hx hb hK hM (cr_X4_4 hr0) hq dcX4_addAt_51 (fun z4 H locs hM hq => ?_)
            exact ih_2 x1 x2 x3 x4 r0 z4 H locs ls hr0 hM (lv_sub hl [0, 1, 2, 3, 4] rfl) hq
      · intro x1 x2 x3 x4 r0 z H locs ls hr0 hM hl hq
        have hq : cm_X4_addAt_2 vl K (c_X4_addAt vl K k) x1 x2 x3 x4 r0 z = some z1 := hq
        unfold cm_X4_addAt_2 at hq
        refine lv_iload_n hx hb dcX4_addAt_52 rfl (lv_at hl 1 rfl) ?_
        refine lv_if_lt (tgt := 104) hx hb dcX4_addAt_53 (by decide) (fun hc => ?_) (fun hc => ?_)
        · have hq := tw_it hq hc
          exact cw_vret hx hb hr hlocks hM hq hQQ dcX4_addAt_104
        · have hq := tw_if hq hc
          refine lv_iload_n hx hb dcX4_addAt_56 rfl (lv_at hl 1 rfl) ?_
          refine lv_iload hx hb dcX4_addAt_57 (lv_at hl 4 rfl) ?_
          refine lv_icmp_ge (tgt := 104) hx hb dcX4_addAt_59 (by decide) (fun hc => ?_) (fun hc => ?_)
          · have hq := tw_it hq hc
            exact cw_vret hx hb hr hlocks hM hq hQQ dcX4_addAt_104
          · have hq := tw_if hq hc
            refine lv_iload_n hx hb dcX4_addAt_62 rfl (lv_at hl 2 rfl) ?_
            refine lv_if_lt (tgt := 104) hx hb dcX4_addAt_63 (by decide) (fun hc => ?_) (fun hc => ?_)
            · have hq := tw_it hq hc
              exact cw_vret hx hb hr hlocks hM hq hQQ dcX4_addAt_104
            · have hq := tw_if hq hc
              refine lv_iload_n hx hb dcX4_addAt_66 rfl (lv_at hl 2 rfl) ?_
              refine lv_iload hx hb dcX4_addAt_67 (lv_at hl 4 rfl) ?_
              refine lv_icmp_ge (tgt := 104) hx hb dcX4_addAt_69 (by decide) (fun hc => ?_) (fun hc => ?_)
              · have hq := tw_it hq hc
                exact cw_vret hx hb hr hlocks hM hq hQQ dcX4_addAt_104
              · have hq := tw_if hq hc
                refine lv_aload_n hx hb dcX4_addAt_72 rfl (lv_at hl 0 rfl) ?_
                refine vgX4_21 hx hb hT hown hK hM hr0 dcX4_addAt_73 ?_
                refine lv_iload_n hx hb dcX4_addAt_76 rfl (lv_at hl 1 rfl) ?_
                refine lv_bipush (v := 8) hx hb dcX4_addAt_77 (by decide) ?_
                refine lv_imul hx hb dcX4_addAt_79 ?_
                refine lv_iload_n hx hb dcX4_addAt_80 rfl (lv_at hl 2 rfl) ?_
                refine lv_iadd hx hb dcX4_addAt_81 ?_
                refine lv_dup2_11 hx hb dcX4_addAt_82 rfl rfl ?_
                refine uw_lald cX_ok hx hb hK hM (cr_X4_4 hr0) hq dcX4_addAt_83 (fun v5 hq => ?_)
                refine lv_iload_n hx hb dcX4_addAt_84 rfl (lv_at hl 3 rfl) ?_
                refine lv_i2l hx hb dcX4_addAt_85 rfl ?_
                refine lv_lsub hx hb dcX4_addAt_86 ?_
                refine uw_last cX_ok hU hx hb hK hM (cr_X4_4 hr0) hq dcX4_addAt_87 (fun z6 H locs hM hq => ?_)
                refine lv_aload_n hx hb dcX4_addAt_88 rfl (lv_at hl 0 rfl) ?_
                refine vgX4_21 hx hb hT hown hK hM hr0 dcX4_addAt_89 ?_
                refine lv_iload_n hx hb dcX4_addAt_92 rfl (lv_at hl 2 rfl) ?_
                refine lv_bipush (v := 8) hx hb dcX4_addAt_93 (by decide) ?_
                refine lv_imul hx hb dcX4_addAt_95 ?_
                refine lv_iload_n hx hb dcX4_addAt_96 rfl (lv_at hl 1 rfl) ?_
                refine lv_iadd hx hb dcX4_addAt_97 ?_
                refine lv_dup2_11 hx hb dcX4_addAt_98 rfl rfl ?_
                refine uw_lald cX_ok hx hb hK hM (cr_X4_4 hr0) hq dcX4_addAt_99 (fun v7 hq => ?_)
                refine lv_iload_n hx hb dcX4_addAt_100 rfl (lv_at hl 3 rfl) ?_
                refine lv_i2l hx hb dcX4_addAt_101 rfl ?_
                refine lv_lsub hx hb dcX4_addAt_102 ?_
                refine uw_last cX_ok hU hx hb hK hM (cr_X4_4 hr0) hq dcX4_addAt_103 (fun z8 H locs hM hq => ?_)
                exact cw_vret hx hb hr hlocks hM hq hQQ dcX4_addAt_104
  exact (key K).1 x1 x2 x3 x4 r0 z s.heap [] ls hr0 hM (lv_sub hl [0, 1, 2, 3, 4] rfl) hq
theorem dcX4_findCharacteristic_0 : decode cX4_findCharacteristic 0 = .ok (.aload_n 0, 1) := dw_at cX4_findCharacteristic_k0 (p := 0) rfl (by decide +kernel)
theorem dcX4_findCharacteristic_1 : decode cX4_findCharacteristic 1 = .ok (.getfield 31, 3) := dw_at cX4_findCharacteristic_k0 (p := 1) rfl (by decide +kernel)
theorem dcX4_findCharacteristic_4 : decode cX4_findCharacteristic 4 = .ok (.lconst 0, 1) := dw_at cX4_findCharacteristic_k0 (p := 4) rfl (by decide +kernel)
theorem dcX4_findCharacteristic_5 : decode cX4_findCharacteristic 5 = .ok (.invokestatic 89, 3) := dw_at cX4_findCharacteristic_k0 (p := 5) rfl (by decide +kernel)
theorem dcX4_findCharacteristic_8 : decode cX4_findCharacteristic 8 = .ok (.aload_n 0, 1) := dw_at cX4_findCharacteristic_k0 (p := 8) rfl (by decide +kernel)
theorem dcX4_findCharacteristic_9 : decode cX4_findCharacteristic 9 = .ok (.getfield 25, 3) := dw_at cX4_findCharacteristic_k0 (p := 9) rfl (by decide +kernel)
theorem dcX4_findCharacteristic_12 : decode cX4_findCharacteristic 12 = .ok (.lconst 0, 1) := dw_at cX4_findCharacteristic_k0 (p := 12) rfl (by decide +kernel)
theorem dcX4_findCharacteristic_13 : decode cX4_findCharacteristic 13 = .ok (.invokestatic 89, 3) := dw_at cX4_findCharacteristic_k0 (p := 13) rfl (by decide +kernel)
theorem dcX4_findCharacteristic_16 : decode cX4_findCharacteristic 16 = .ok (.aload_n 0, 1) := dw_at cX4_findCharacteristic_k0 (p := 16) rfl (by decide +kernel)
theorem dcX4_findCharacteristic_17 : decode cX4_findCharacteristic 17 = .ok (.getfield 31, 3) := dw_at cX4_findCharacteristic_k0 (p := 17) rfl (by decide +kernel)
theorem dcX4_findCharacteristic_20 : decode cX4_findCharacteristic 20 = .ok (.iload_n 1, 1) := dw_at cX4_findCharacteristic_k0 (p := 20) rfl (by decide +kernel)
theorem dcX4_findCharacteristic_21 : decode cX4_findCharacteristic 21 = .ok (.lconst 1, 1) := dw_at cX4_findCharacteristic_k0 (p := 21) rfl (by decide +kernel)
theorem dcX4_findCharacteristic_22 : decode cX4_findCharacteristic 22 = .ok (.lastore, 1) := dw_at cX4_findCharacteristic_k0 (p := 22) rfl (by decide +kernel)
theorem dcX4_findCharacteristic_23 : decode cX4_findCharacteristic 23 = .ok (.iconst 1, 1) := dw_at cX4_findCharacteristic_k0 (p := 23) rfl (by decide +kernel)
theorem dcX4_findCharacteristic_24 : decode cX4_findCharacteristic 24 = .ok (.istore_n 2, 1) := dw_at cX4_findCharacteristic_k1 (p := 0) rfl (by decide +kernel)
theorem dcX4_findCharacteristic_25 : decode cX4_findCharacteristic 25 = .ok (.iload_n 2, 1) := dw_at cX4_findCharacteristic_k1 (p := 1) rfl (by decide +kernel)
theorem dcX4_findCharacteristic_26 : decode cX4_findCharacteristic 26 = .ok (.iload_n 1, 1) := dw_at cX4_findCharacteristic_k1 (p := 2) rfl (by decide +kernel)
theorem dcX4_findCharacteristic_27 : decode cX4_findCharacteristic 27 = .ok (.if_icmp .gt 190, 3) := dw_at cX4_findCharacteristic_k1 (p := 3) rfl (by decide +kernel)
theorem dcX4_findCharacteristic_30 : decode cX4_findCharacteristic 30 = .ok (.iconst 0, 1) := dw_at cX4_findCharacteristic_k1 (p := 6) rfl (by decide +kernel)
theorem dcX4_findCharacteristic_31 : decode cX4_findCharacteristic 31 = .ok (.istore_n 3, 1) := dw_at cX4_findCharacteristic_k1 (p := 7) rfl (by decide +kernel)
theorem dcX4_findCharacteristic_32 : decode cX4_findCharacteristic 32 = .ok (.iload_n 3, 1) := dw_at cX4_findCharacteristic_k1 (p := 8) rfl (by decide +kernel)
theorem dcX4_findCharacteristic_33 : decode cX4_findCharacteristic 33 = .ok (.iload_n 1, 1) := dw_at cX4_findCharacteristic_k1 (p := 9) rfl (by decide +kernel)
theorem dcX4_findCharacteristic_34 : decode cX4_findCharacteristic 34 = .ok (.if_icmp .ge 33, 3) := dw_at cX4_findCharacteristic_k1 (p := 10) rfl (by decide +kernel)
theorem dcX4_findCharacteristic_37 : decode cX4_findCharacteristic 37 = .ok (.aload_n 0, 1) := dw_at cX4_findCharacteristic_k1 (p := 13) rfl (by decide +kernel)
theorem dcX4_findCharacteristic_38 : decode cX4_findCharacteristic 38 = .ok (.getfield 25, 3) := dw_at cX4_findCharacteristic_k1 (p := 14) rfl (by decide +kernel)
theorem dcX4_findCharacteristic_41 : decode cX4_findCharacteristic 41 = .ok (.iload_n 3, 1) := dw_at cX4_findCharacteristic_k1 (p := 17) rfl (by decide +kernel)
theorem dcX4_findCharacteristic_42 : decode cX4_findCharacteristic 42 = .ok (.bipush 8, 2) := dw_at cX4_findCharacteristic_k1 (p := 18) rfl (by decide +kernel)
theorem dcX4_findCharacteristic_44 : decode cX4_findCharacteristic 44 = .ok (.imul, 1) := dw_at cX4_findCharacteristic_k1 (p := 20) rfl (by decide +kernel)
theorem dcX4_findCharacteristic_45 : decode cX4_findCharacteristic 45 = .ok (.iload_n 3, 1) := dw_at cX4_findCharacteristic_k1 (p := 21) rfl (by decide +kernel)
theorem dcX4_findCharacteristic_46 : decode cX4_findCharacteristic 46 = .ok (.iadd, 1) := dw_at cX4_findCharacteristic_k1 (p := 22) rfl (by decide +kernel)
theorem dcX4_findCharacteristic_47 : decode cX4_findCharacteristic 47 = .ok (.dup2, 1) := dw_at cX4_findCharacteristic_k1 (p := 23) rfl (by decide +kernel)
theorem dcX4_findCharacteristic_48 : decode cX4_findCharacteristic 48 = .ok (.laload, 1) := dw_at cX4_findCharacteristic_k2 (p := 0) rfl (by decide +kernel)
theorem dcX4_findCharacteristic_49 : decode cX4_findCharacteristic 49 = .ok (.aload_n 0, 1) := dw_at cX4_findCharacteristic_k2 (p := 1) rfl (by decide +kernel)
theorem dcX4_findCharacteristic_50 : decode cX4_findCharacteristic 50 = .ok (.getfield 31, 3) := dw_at cX4_findCharacteristic_k2 (p := 2) rfl (by decide +kernel)
theorem dcX4_findCharacteristic_53 : decode cX4_findCharacteristic 53 = .ok (.iload_n 1, 1) := dw_at cX4_findCharacteristic_k2 (p := 5) rfl (by decide +kernel)
theorem dcX4_findCharacteristic_54 : decode cX4_findCharacteristic 54 = .ok (.iload_n 2, 1) := dw_at cX4_findCharacteristic_k2 (p := 6) rfl (by decide +kernel)
theorem dcX4_findCharacteristic_55 : decode cX4_findCharacteristic 55 = .ok (.isub, 1) := dw_at cX4_findCharacteristic_k2 (p := 7) rfl (by decide +kernel)
theorem dcX4_findCharacteristic_56 : decode cX4_findCharacteristic 56 = .ok (.iconst 1, 1) := dw_at cX4_findCharacteristic_k2 (p := 8) rfl (by decide +kernel)
theorem dcX4_findCharacteristic_57 : decode cX4_findCharacteristic 57 = .ok (.iadd, 1) := dw_at cX4_findCharacteristic_k2 (p := 9) rfl (by decide +kernel)
theorem dcX4_findCharacteristic_58 : decode cX4_findCharacteristic 58 = .ok (.laload, 1) := dw_at cX4_findCharacteristic_k2 (p := 10) rfl (by decide +kernel)
theorem dcX4_findCharacteristic_59 : decode cX4_findCharacteristic 59 = .ok (.ladd, 1) := dw_at cX4_findCharacteristic_k2 (p := 11) rfl (by decide +kernel)
theorem dcX4_findCharacteristic_60 : decode cX4_findCharacteristic 60 = .ok (.lastore, 1) := dw_at cX4_findCharacteristic_k2 (p := 12) rfl (by decide +kernel)
theorem dcX4_findCharacteristic_61 : decode cX4_findCharacteristic 61 = .ok (.iinc 3 1, 3) := dw_at cX4_findCharacteristic_k2 (p := 13) rfl (by decide +kernel)
theorem dcX4_findCharacteristic_64 : decode cX4_findCharacteristic 64 = .ok (.goto (-32), 3) := dw_at cX4_findCharacteristic_k2 (p := 16) rfl (by decide +kernel)
theorem dcX4_findCharacteristic_67 : decode cX4_findCharacteristic 67 = .ok (.lconst 0, 1) := dw_at cX4_findCharacteristic_k2 (p := 19) rfl (by decide +kernel)
theorem dcX4_findCharacteristic_68 : decode cX4_findCharacteristic 68 = .ok (.lstore_n 3, 1) := dw_at cX4_findCharacteristic_k2 (p := 20) rfl (by decide +kernel)
theorem dcX4_findCharacteristic_69 : decode cX4_findCharacteristic 69 = .ok (.iconst 0, 1) := dw_at cX4_findCharacteristic_k2 (p := 21) rfl (by decide +kernel)
theorem dcX4_findCharacteristic_70 : decode cX4_findCharacteristic 70 = .ok (.istore 5, 2) := dw_at cX4_findCharacteristic_k2 (p := 22) rfl (by decide +kernel)
theorem dcX4_findCharacteristic_72 : decode cX4_findCharacteristic 72 = .ok (.iload 5, 2) := dw_at cX4_findCharacteristic_k3 (p := 0) rfl (by decide +kernel)
theorem dcX4_findCharacteristic_74 : decode cX4_findCharacteristic 74 = .ok (.iload_n 1, 1) := dw_at cX4_findCharacteristic_k3 (p := 2) rfl (by decide +kernel)
theorem dcX4_findCharacteristic_75 : decode cX4_findCharacteristic 75 = .ok (.if_icmp .ge 105, 3) := dw_at cX4_findCharacteristic_k3 (p := 3) rfl (by decide +kernel)
theorem dcX4_findCharacteristic_78 : decode cX4_findCharacteristic 78 = .ok (.iconst 0, 1) := dw_at cX4_findCharacteristic_k3 (p := 6) rfl (by decide +kernel)
theorem dcX4_findCharacteristic_79 : decode cX4_findCharacteristic 79 = .ok (.istore 6, 2) := dw_at cX4_findCharacteristic_k3 (p := 7) rfl (by decide +kernel)
theorem dcX4_findCharacteristic_81 : decode cX4_findCharacteristic 81 = .ok (.iload 6, 2) := dw_at cX4_findCharacteristic_k3 (p := 9) rfl (by decide +kernel)
theorem dcX4_findCharacteristic_83 : decode cX4_findCharacteristic 83 = .ok (.iload_n 1, 1) := dw_at cX4_findCharacteristic_k3 (p := 11) rfl (by decide +kernel)
theorem dcX4_findCharacteristic_84 : decode cX4_findCharacteristic 84 = .ok (.if_icmp .ge 74, 3) := dw_at cX4_findCharacteristic_k3 (p := 12) rfl (by decide +kernel)
theorem dcX4_findCharacteristic_87 : decode cX4_findCharacteristic 87 = .ok (.lconst 0, 1) := dw_at cX4_findCharacteristic_k3 (p := 15) rfl (by decide +kernel)
theorem dcX4_findCharacteristic_88 : decode cX4_findCharacteristic 88 = .ok (.lstore 7, 2) := dw_at cX4_findCharacteristic_k3 (p := 16) rfl (by decide +kernel)
theorem dcX4_findCharacteristic_90 : decode cX4_findCharacteristic 90 = .ok (.iconst 0, 1) := dw_at cX4_findCharacteristic_k3 (p := 18) rfl (by decide +kernel)
theorem dcX4_findCharacteristic_91 : decode cX4_findCharacteristic 91 = .ok (.istore 9, 2) := dw_at cX4_findCharacteristic_k3 (p := 19) rfl (by decide +kernel)
theorem dcX4_findCharacteristic_93 : decode cX4_findCharacteristic 93 = .ok (.iload 9, 2) := dw_at cX4_findCharacteristic_k3 (p := 21) rfl (by decide +kernel)
theorem dcX4_findCharacteristic_95 : decode cX4_findCharacteristic 95 = .ok (.iload_n 1, 1) := dw_at cX4_findCharacteristic_k3 (p := 23) rfl (by decide +kernel)
theorem dcX4_findCharacteristic_96 : decode cX4_findCharacteristic 96 = .ok (.if_icmp .ge 41, 3) := dw_at cX4_findCharacteristic_k4 (p := 0) rfl (by decide +kernel)
theorem dcX4_findCharacteristic_99 : decode cX4_findCharacteristic 99 = .ok (.lload 7, 2) := dw_at cX4_findCharacteristic_k4 (p := 3) rfl (by decide +kernel)
theorem dcX4_findCharacteristic_101 : decode cX4_findCharacteristic 101 = .ok (.aload_n 0, 1) := dw_at cX4_findCharacteristic_k4 (p := 5) rfl (by decide +kernel)
theorem dcX4_findCharacteristic_102 : decode cX4_findCharacteristic 102 = .ok (.getfield 21, 3) := dw_at cX4_findCharacteristic_k4 (p := 6) rfl (by decide +kernel)
theorem dcX4_findCharacteristic_105 : decode cX4_findCharacteristic 105 = .ok (.iload 5, 2) := dw_at cX4_findCharacteristic_k4 (p := 9) rfl (by decide +kernel)
theorem dcX4_findCharacteristic_107 : decode cX4_findCharacteristic 107 = .ok (.bipush 8, 2) := dw_at cX4_findCharacteristic_k4 (p := 11) rfl (by decide +kernel)
theorem dcX4_findCharacteristic_109 : decode cX4_findCharacteristic 109 = .ok (.imul, 1) := dw_at cX4_findCharacteristic_k4 (p := 13) rfl (by decide +kernel)
theorem dcX4_findCharacteristic_110 : decode cX4_findCharacteristic 110 = .ok (.iload 9, 2) := dw_at cX4_findCharacteristic_k4 (p := 14) rfl (by decide +kernel)
theorem dcX4_findCharacteristic_112 : decode cX4_findCharacteristic 112 = .ok (.iadd, 1) := dw_at cX4_findCharacteristic_k4 (p := 16) rfl (by decide +kernel)
theorem dcX4_findCharacteristic_113 : decode cX4_findCharacteristic 113 = .ok (.laload, 1) := dw_at cX4_findCharacteristic_k4 (p := 17) rfl (by decide +kernel)
theorem dcX4_findCharacteristic_114 : decode cX4_findCharacteristic 114 = .ok (.aload_n 0, 1) := dw_at cX4_findCharacteristic_k4 (p := 18) rfl (by decide +kernel)
theorem dcX4_findCharacteristic_115 : decode cX4_findCharacteristic 115 = .ok (.getfield 25, 3) := dw_at cX4_findCharacteristic_k4 (p := 19) rfl (by decide +kernel)
theorem dcX4_findCharacteristic_118 : decode cX4_findCharacteristic 118 = .ok (.iload 9, 2) := dw_at cX4_findCharacteristic_k4 (p := 22) rfl (by decide +kernel)
theorem dcX4_findCharacteristic_120 : decode cX4_findCharacteristic 120 = .ok (.bipush 8, 2) := dw_at cX4_findCharacteristic_k5 (p := 0) rfl (by decide +kernel)
theorem dcX4_findCharacteristic_122 : decode cX4_findCharacteristic 122 = .ok (.imul, 1) := dw_at cX4_findCharacteristic_k5 (p := 2) rfl (by decide +kernel)
theorem dcX4_findCharacteristic_123 : decode cX4_findCharacteristic 123 = .ok (.iload 6, 2) := dw_at cX4_findCharacteristic_k5 (p := 3) rfl (by decide +kernel)
theorem dcX4_findCharacteristic_125 : decode cX4_findCharacteristic 125 = .ok (.iadd, 1) := dw_at cX4_findCharacteristic_k5 (p := 5) rfl (by decide +kernel)
theorem dcX4_findCharacteristic_126 : decode cX4_findCharacteristic 126 = .ok (.laload, 1) := dw_at cX4_findCharacteristic_k5 (p := 6) rfl (by decide +kernel)
theorem dcX4_findCharacteristic_127 : decode cX4_findCharacteristic 127 = .ok (.lmul, 1) := dw_at cX4_findCharacteristic_k5 (p := 7) rfl (by decide +kernel)
theorem dcX4_findCharacteristic_128 : decode cX4_findCharacteristic 128 = .ok (.ladd, 1) := dw_at cX4_findCharacteristic_k5 (p := 8) rfl (by decide +kernel)
theorem dcX4_findCharacteristic_129 : decode cX4_findCharacteristic 129 = .ok (.lstore 7, 2) := dw_at cX4_findCharacteristic_k5 (p := 9) rfl (by decide +kernel)
theorem dcX4_findCharacteristic_131 : decode cX4_findCharacteristic 131 = .ok (.iinc 9 1, 3) := dw_at cX4_findCharacteristic_k5 (p := 11) rfl (by decide +kernel)
theorem dcX4_findCharacteristic_134 : decode cX4_findCharacteristic 134 = .ok (.goto (-41), 3) := dw_at cX4_findCharacteristic_k5 (p := 14) rfl (by decide +kernel)
theorem dcX4_findCharacteristic_137 : decode cX4_findCharacteristic 137 = .ok (.aload_n 0, 1) := dw_at cX4_findCharacteristic_k5 (p := 17) rfl (by decide +kernel)
theorem dcX4_findCharacteristic_138 : decode cX4_findCharacteristic 138 = .ok (.getfield 28, 3) := dw_at cX4_findCharacteristic_k5 (p := 18) rfl (by decide +kernel)
theorem dcX4_findCharacteristic_141 : decode cX4_findCharacteristic 141 = .ok (.iload 5, 2) := dw_at cX4_findCharacteristic_k5 (p := 21) rfl (by decide +kernel)
theorem dcX4_findCharacteristic_143 : decode cX4_findCharacteristic 143 = .ok (.bipush 8, 2) := dw_at cX4_findCharacteristic_k5 (p := 23) rfl (by decide +kernel)
theorem dcX4_findCharacteristic_145 : decode cX4_findCharacteristic 145 = .ok (.imul, 1) := dw_at cX4_findCharacteristic_k6 (p := 0) rfl (by decide +kernel)
theorem dcX4_findCharacteristic_146 : decode cX4_findCharacteristic 146 = .ok (.iload 6, 2) := dw_at cX4_findCharacteristic_k6 (p := 1) rfl (by decide +kernel)
theorem dcX4_findCharacteristic_148 : decode cX4_findCharacteristic 148 = .ok (.iadd, 1) := dw_at cX4_findCharacteristic_k6 (p := 3) rfl (by decide +kernel)
theorem dcX4_findCharacteristic_149 : decode cX4_findCharacteristic 149 = .ok (.lload 7, 2) := dw_at cX4_findCharacteristic_k6 (p := 4) rfl (by decide +kernel)
theorem dcX4_findCharacteristic_151 : decode cX4_findCharacteristic 151 = .ok (.lastore, 1) := dw_at cX4_findCharacteristic_k6 (p := 6) rfl (by decide +kernel)
theorem dcX4_findCharacteristic_152 : decode cX4_findCharacteristic 152 = .ok (.iinc 6 1, 3) := dw_at cX4_findCharacteristic_k6 (p := 7) rfl (by decide +kernel)
theorem dcX4_findCharacteristic_155 : decode cX4_findCharacteristic 155 = .ok (.goto (-74), 3) := dw_at cX4_findCharacteristic_k6 (p := 10) rfl (by decide +kernel)
theorem dcX4_findCharacteristic_158 : decode cX4_findCharacteristic 158 = .ok (.lload_n 3, 1) := dw_at cX4_findCharacteristic_k6 (p := 13) rfl (by decide +kernel)
theorem dcX4_findCharacteristic_159 : decode cX4_findCharacteristic 159 = .ok (.aload_n 0, 1) := dw_at cX4_findCharacteristic_k6 (p := 14) rfl (by decide +kernel)
theorem dcX4_findCharacteristic_160 : decode cX4_findCharacteristic 160 = .ok (.getfield 28, 3) := dw_at cX4_findCharacteristic_k6 (p := 15) rfl (by decide +kernel)
theorem dcX4_findCharacteristic_163 : decode cX4_findCharacteristic 163 = .ok (.iload 5, 2) := dw_at cX4_findCharacteristic_k6 (p := 18) rfl (by decide +kernel)
theorem dcX4_findCharacteristic_165 : decode cX4_findCharacteristic 165 = .ok (.bipush 8, 2) := dw_at cX4_findCharacteristic_k6 (p := 20) rfl (by decide +kernel)
theorem dcX4_findCharacteristic_167 : decode cX4_findCharacteristic 167 = .ok (.imul, 1) := dw_at cX4_findCharacteristic_k6 (p := 22) rfl (by decide +kernel)
theorem dcX4_findCharacteristic_168 : decode cX4_findCharacteristic 168 = .ok (.iload 5, 2) := dw_at cX4_findCharacteristic_k6 (p := 23) rfl (by decide +kernel)
theorem dcX4_findCharacteristic_170 : decode cX4_findCharacteristic 170 = .ok (.iadd, 1) := dw_at cX4_findCharacteristic_k7 (p := 0) rfl (by decide +kernel)
theorem dcX4_findCharacteristic_171 : decode cX4_findCharacteristic 171 = .ok (.laload, 1) := dw_at cX4_findCharacteristic_k7 (p := 1) rfl (by decide +kernel)
theorem dcX4_findCharacteristic_172 : decode cX4_findCharacteristic 172 = .ok (.ladd, 1) := dw_at cX4_findCharacteristic_k7 (p := 2) rfl (by decide +kernel)
theorem dcX4_findCharacteristic_173 : decode cX4_findCharacteristic 173 = .ok (.lstore_n 3, 1) := dw_at cX4_findCharacteristic_k7 (p := 3) rfl (by decide +kernel)
theorem dcX4_findCharacteristic_174 : decode cX4_findCharacteristic 174 = .ok (.iinc 5 1, 3) := dw_at cX4_findCharacteristic_k7 (p := 4) rfl (by decide +kernel)
theorem dcX4_findCharacteristic_177 : decode cX4_findCharacteristic 177 = .ok (.goto (-105), 3) := dw_at cX4_findCharacteristic_k7 (p := 7) rfl (by decide +kernel)
theorem dcX4_findCharacteristic_180 : decode cX4_findCharacteristic 180 = .ok (.aload_n 0, 1) := dw_at cX4_findCharacteristic_k7 (p := 10) rfl (by decide +kernel)
theorem dcX4_findCharacteristic_181 : decode cX4_findCharacteristic 181 = .ok (.getfield 31, 3) := dw_at cX4_findCharacteristic_k7 (p := 11) rfl (by decide +kernel)
theorem dcX4_findCharacteristic_184 : decode cX4_findCharacteristic 184 = .ok (.iload_n 1, 1) := dw_at cX4_findCharacteristic_k7 (p := 14) rfl (by decide +kernel)
theorem dcX4_findCharacteristic_185 : decode cX4_findCharacteristic 185 = .ok (.iload_n 2, 1) := dw_at cX4_findCharacteristic_k7 (p := 15) rfl (by decide +kernel)
theorem dcX4_findCharacteristic_186 : decode cX4_findCharacteristic 186 = .ok (.isub, 1) := dw_at cX4_findCharacteristic_k7 (p := 16) rfl (by decide +kernel)
theorem dcX4_findCharacteristic_187 : decode cX4_findCharacteristic 187 = .ok (.lload_n 3, 1) := dw_at cX4_findCharacteristic_k7 (p := 17) rfl (by decide +kernel)
theorem dcX4_findCharacteristic_188 : decode cX4_findCharacteristic 188 = .ok (.lneg, 1) := dw_at cX4_findCharacteristic_k7 (p := 18) rfl (by decide +kernel)
theorem dcX4_findCharacteristic_189 : decode cX4_findCharacteristic 189 = .ok (.iload_n 2, 1) := dw_at cX4_findCharacteristic_k7 (p := 19) rfl (by decide +kernel)
theorem dcX4_findCharacteristic_190 : decode cX4_findCharacteristic 190 = .ok (.i2l, 1) := dw_at cX4_findCharacteristic_k7 (p := 20) rfl (by decide +kernel)
theorem dcX4_findCharacteristic_191 : decode cX4_findCharacteristic 191 = .ok (.ldiv, 1) := dw_at cX4_findCharacteristic_k7 (p := 21) rfl (by decide +kernel)
theorem dcX4_findCharacteristic_192 : decode cX4_findCharacteristic 192 = .ok (.lastore, 1) := dw_at cX4_findCharacteristic_k7 (p := 22) rfl (by decide +kernel)
theorem dcX4_findCharacteristic_193 : decode cX4_findCharacteristic 193 = .ok (.aload_n 0, 1) := dw_at cX4_findCharacteristic_k7 (p := 23) rfl (by decide +kernel)
theorem dcX4_findCharacteristic_194 : decode cX4_findCharacteristic 194 = .ok (.getfield 28, 3) := dw_at cX4_findCharacteristic_k8 (p := 0) rfl (by decide +kernel)
theorem dcX4_findCharacteristic_197 : decode cX4_findCharacteristic 197 = .ok (.iconst 0, 1) := dw_at cX4_findCharacteristic_k8 (p := 3) rfl (by decide +kernel)
theorem dcX4_findCharacteristic_198 : decode cX4_findCharacteristic 198 = .ok (.aload_n 0, 1) := dw_at cX4_findCharacteristic_k8 (p := 4) rfl (by decide +kernel)
theorem dcX4_findCharacteristic_199 : decode cX4_findCharacteristic 199 = .ok (.getfield 25, 3) := dw_at cX4_findCharacteristic_k8 (p := 5) rfl (by decide +kernel)
theorem dcX4_findCharacteristic_202 : decode cX4_findCharacteristic 202 = .ok (.iconst 0, 1) := dw_at cX4_findCharacteristic_k8 (p := 8) rfl (by decide +kernel)
theorem dcX4_findCharacteristic_203 : decode cX4_findCharacteristic 203 = .ok (.aload_n 0, 1) := dw_at cX4_findCharacteristic_k8 (p := 9) rfl (by decide +kernel)
theorem dcX4_findCharacteristic_204 : decode cX4_findCharacteristic 204 = .ok (.getfield 28, 3) := dw_at cX4_findCharacteristic_k8 (p := 10) rfl (by decide +kernel)
theorem dcX4_findCharacteristic_207 : decode cX4_findCharacteristic 207 = .ok (.arraylength, 1) := dw_at cX4_findCharacteristic_k8 (p := 13) rfl (by decide +kernel)
theorem dcX4_findCharacteristic_208 : decode cX4_findCharacteristic 208 = .ok (.invokestatic 108, 3) := dw_at cX4_findCharacteristic_k8 (p := 14) rfl (by decide +kernel)
theorem dcX4_findCharacteristic_211 : decode cX4_findCharacteristic 211 = .ok (.iinc 2 1, 3) := dw_at cX4_findCharacteristic_k8 (p := 17) rfl (by decide +kernel)
theorem dcX4_findCharacteristic_214 : decode cX4_findCharacteristic 214 = .ok (.goto (-189), 3) := dw_at cX4_findCharacteristic_k8 (p := 20) rfl (by decide +kernel)
theorem dcX4_findCharacteristic_217 : decode cX4_findCharacteristic 217 = .ok (.return_, 1) := dw_at cX4_findCharacteristic_k8 (p := 23) rfl (by decide +kernel)
def cm_X4_findCharacteristic_0 (vl : Nat → Nat) (K : Nat) (go : Nat → Int32 → Int32 → Int32 → Int32 → Int32 → Int32 → Int64 → Int64 → Nat → ow_MS → Option ow_MS) (x1 : Int32) (x2 : Int32) (x3 : Int32) (x5 : Int32) (x6 : Int32) (x9 : Int32) (w3 : Int64) (w7 : Int64) (r0 : Nat) (z : ow_MS) : Option ow_MS :=
 cs0 (ce_J7_fill_d0a16 vl K (r0 + 8) 0 z) fun z1 => cs0 (ce_J7_fill_d0a16 vl K (r0 + 6) 0 z1) fun z2 => ctJ (cX vl) z2 (r0 + 8) x1 1 fun z3 => go 1 x1 1 0 0 0 0 0 0 r0 z3
def cm_X4_findCharacteristic_1 (vl : Nat → Nat) (K : Nat) (go : Nat → Int32 → Int32 → Int32 → Int32 → Int32 → Int32 → Int64 → Int64 → Nat → ow_MS → Option ow_MS) (x1 : Int32) (x2 : Int32) (x3 : Int32) (x5 : Int32) (x6 : Int32) (x9 : Int32) (w3 : Int64) (w7 : Int64) (r0 : Nat) (z : ow_MS) : Option ow_MS :=
 (if x1 < x2 then some z
 else go 2 x1 x2 0 0 0 0 0 0 r0 z)
def cm_X4_findCharacteristic_2 (vl : Nat → Nat) (K : Nat) (go : Nat → Int32 → Int32 → Int32 → Int32 → Int32 → Int32 → Int64 → Int64 → Nat → ow_MS → Option ow_MS) (x1 : Int32) (x2 : Int32) (x3 : Int32) (x5 : Int32) (x6 : Int32) (x9 : Int32) (w3 : Int64) (w7 : Int64) (r0 : Nat) (z : ow_MS) : Option ow_MS :=
 (if x1 ≤ x3 then go 3 x1 x2 0 0 0 0 0 0 r0 z
 else crJ (cX vl) z (r0 + 6) ((x3 * 8) + x3) fun v4 => crJ (cX vl) z (r0 + 8) ((x1 - x2) + 1) fun v5 => ctJ (cX vl) z (r0 + 6) ((x3 * 8) + x3) (v4 + v5) fun z6 => go 2 x1 x2 (x3 + 1) 0 0 0 0 0 r0 z6)
def cm_X4_findCharacteristic_3 (vl : Nat → Nat) (K : Nat) (go : Nat → Int32 → Int32 → Int32 → Int32 → Int32 → Int32 → Int64 → Int64 → Nat → ow_MS → Option ow_MS) (x1 : Int32) (x2 : Int32) (x3 : Int32) (x5 : Int32) (x6 : Int32) (x9 : Int32) (w3 : Int64) (w7 : Int64) (r0 : Nat) (z : ow_MS) : Option ow_MS :=
 (if x1 ≤ x5 then nzJ x2.toInt64 (ctJ (cX vl) z (r0 + 8) (x1 - x2) ((-w3) / x2.toInt64) fun z7 => cpJ (cX vl) z7 (r0 + 7) 0 (r0 + 6) 0 (Int32.ofNat (uw_len (cX vl) z7 (r0 + 7))) fun z8 => go 1 x1 (x2 + 1) 0 0 0 0 0 0 r0 z8)
 else go 4 x1 x2 0 x5 0 0 w3 0 r0 z)
def cm_X4_findCharacteristic_4 (vl : Nat → Nat) (K : Nat) (go : Nat → Int32 → Int32 → Int32 → Int32 → Int32 → Int32 → Int64 → Int64 → Nat → ow_MS → Option ow_MS) (x1 : Int32) (x2 : Int32) (x3 : Int32) (x5 : Int32) (x6 : Int32) (x9 : Int32) (w3 : Int64) (w7 : Int64) (r0 : Nat) (z : ow_MS) : Option ow_MS :=
 (if x1 ≤ x6 then crJ (cX vl) z (r0 + 7) ((x5 * 8) + x5) fun v9 => go 3 x1 x2 0 (x5 + 1) 0 0 (w3 + v9) 0 r0 z
 else go 5 x1 x2 0 x5 x6 0 w3 0 r0 z)
def cm_X4_findCharacteristic_5 (vl : Nat → Nat) (K : Nat) (go : Nat → Int32 → Int32 → Int32 → Int32 → Int32 → Int32 → Int64 → Int64 → Nat → ow_MS → Option ow_MS) (x1 : Int32) (x2 : Int32) (x3 : Int32) (x5 : Int32) (x6 : Int32) (x9 : Int32) (w3 : Int64) (w7 : Int64) (r0 : Nat) (z : ow_MS) : Option ow_MS :=
 (if x1 ≤ x9 then ctJ (cX vl) z (r0 + 7) ((x5 * 8) + x6) w7 fun z10 => go 4 x1 x2 0 x5 (x6 + 1) 0 w3 0 r0 z10
 else crJ (cX vl) z (r0 + 5) ((x5 * 8) + x9) fun v11 => crJ (cX vl) z (r0 + 6) ((x9 * 8) + x6) fun v12 => go 5 x1 x2 0 x5 x6 (x9 + 1) w3 (w7 + (v11 * v12)) r0 z)
def cb_X4_findCharacteristic (vl : Nat → Nat) (K : Nat) (go : Nat → Int32 → Int32 → Int32 → Int32 → Int32 → Int32 → Int64 → Int64 → Nat → ow_MS → Option ow_MS) (L : Nat) (x1 : Int32) (x2 : Int32) (x3 : Int32) (x5 : Int32) (x6 : Int32) (x9 : Int32) (w3 : Int64) (w7 : Int64) (r0 : Nat) (z : ow_MS) : Option ow_MS := match L with
  | 0 => cm_X4_findCharacteristic_0 vl K go x1 x2 x3 x5 x6 x9 w3 w7 r0 z
  | 1 => cm_X4_findCharacteristic_1 vl K go x1 x2 x3 x5 x6 x9 w3 w7 r0 z
  | 2 => cm_X4_findCharacteristic_2 vl K go x1 x2 x3 x5 x6 x9 w3 w7 r0 z
  | 3 => cm_X4_findCharacteristic_3 vl K go x1 x2 x3 x5 x6 x9 w3 w7 r0 z
  | 4 => cm_X4_findCharacteristic_4 vl K go x1 x2 x3 x5 x6 x9 w3 w7 r0 z
  | 5 => cm_X4_findCharacteristic_5 vl K go x1 x2 x3 x5 x6 x9 w3 w7 r0 z
  | _ => none
def c_X4_findCharacteristic (vl : Nat → Nat) (K : Nat) : Nat → Nat → Int32 → Int32 → Int32 → Int32 → Int32 → Int32 → Int64 → Int64 → Nat → ow_MS → Option ow_MS
  | 0 => fun _ _ _ _ _ _ _ _ _ _ _ => none
  | k + 1 => cb_X4_findCharacteristic vl K (c_X4_findCharacteristic vl K k)
def ce_X4_findCharacteristic (vl : Nat → Nat) (K : Nat) (r0 : Nat) (x1 : Int32) (z : ow_MS) : Option ow_MS := c_X4_findCharacteristic vl K K 0 x1 0 0 0 0 0 0 0 r0 z
abbrev wc_X4_findCharacteristic : List Cond := .code yX4_findCharacteristic cX4_findCharacteristic 10 none :: wC
theorem cdd_X4_findCharacteristic : yX4_findCharacteristic.cls = RX4 ∧ yX4_findCharacteristic.cls ≠ "java/lang/invoke/MethodHandle" ∧ yX4_findCharacteristic.cls ≠ "java/lang/invoke/VarHandle" ∧ (parseMethodDescriptor yX4_findCharacteristic.desc).map (fun d => d.parameters.length) = some 1 := by decide +kernel
set_option maxHeartbeats 4000000 in
set_option maxRecDepth 100000 in
theorem kc_X4_findCharacteristic (l : Launch) (D : va_G) (q : Nat → ClassId) (vl u : Nat → Nat) (hU0 : tw_inj (cX vl) u) (K : Nat) (r0 : Nat) (x1 : Int32) (hr0 : cw_X4 r0) (z z1 : ow_MS) (hq : ce_X4_findCharacteristic vl K r0 x1 z = some z1) : Met l yX4_findCharacteristic wc_X4_findCharacteristic ({ frames := 1, cells := 0, slots := 0, locals := 60 } : Room) (va_Pc [.ref (u r0), .int x1] (cw_pre D q vl u z)) (va_Qv (fun (_ : Unit) => True) (fun _ t => va_P D vwCl (uw (cX vl) q u z1) t.heap) (tw_A (cX vl) u)) 0 0 (tw_A (cX vl) u) := by
  refine Met.ofW (cc := cX4_findCharacteristic) (maxL := 10) (ret := none) (by decide) rfl ?_
  intro p e s m args below meth c s₁ B hml hv
  obtain ⟨rfl, hP, hK⟩ := hv
  have hx := B.exec
  have hb := B.bytes
  have hr := B.returns
  have hts := atoms_spec (ws := wc_X4_findCharacteristic) B.pre
  have hT : ∀ w ∈ wC, w.before ([.ref (u r0), .int x1] : List Value).toArray s = true := fun w h => hts w (List.mem_cons_of_mem _ h)
  have hown : s.vm.findClass RX4 = some m.cls := findClass_of_methodNamed B.named
  have hlocks := B.notSynchronized
  have hU : uw_inj (cX vl) u (tw_A (cX vl) u) := ⟨hU0, fun h hh => ⟨h, hh, rfl⟩⟩
  have hM : uw_M D vwCl (cX vl) q (tw_A (cX vl) u) s.heap u z s.heap [] := ⟨hP, va_S.rf⟩
  have hl := lv_entry ([.ref (u r0), .int x1]) (n := 10) (Nat.le_of_ble_eq_true rfl)
  rw [lg_entry_eq]
  generalize (lg_sl ([.ref (u r0), .int x1]) ++ List.replicate (10 - (lg_sl ([.ref (u r0), .int x1])).length) Slot.unset).toArray = ls at hl ⊢
  have hl : lv_has ls 10 [(0, .ref (u r0)), (1, .int x1)] := hl
  refine ow_named (fun QQ hQQ => ?_)
  generalize ([.ref (u r0), .int x1] : List Value).toArray = args at hts hT hQQ ⊢
  have key : ∀ k : Nat, (∀ (x1 : Int32) (x2 : Int32) (x3 : Int32) (x5 : Int32) (x6 : Int32) (x9 : Int32) (w3 : Int64) (w7 : Int64) (r0 : Nat) (z : ow_MS) (H : Heap) (locs : List Loc) (ls : Array Slot), cw_X4 r0 → uw_M D vwCl (cX vl) q (tw_A (cX vl) u) s.heap u z H locs → lv_has ls 10 [(0, .ref (u r0)), (1, .int x1)] → c_X4_findCharacteristic vl K k 0 x1 x2 x3 x5 x6 x9 w3 w7 r0 z = some z1 → W p l e ({ frames := 1, cells := 0, slots := 0, locals := 60 } : Room) s m args below meth c H locs 0 0 QQ (F0 m 0 ls [])) ∧ (∀ (x1 : Int32) (x2 : Int32) (x3 : Int32) (x5 : Int32) (x6 : Int32) (x9 : Int32) (w3 : Int64) (w7 : Int64) (r0 : Nat) (z : ow_MS) (H : Heap) (locs : List Loc) (ls : Array Slot), cw_X4 r0 → uw_M D vwCl (cX vl) q (tw_A (cX vl) u) s.heap u z H locs → lv_has ls 10 [(0, .ref (u r0)), (1, .int x1), (2, .int x2)] → c_X4_findCharacteristic vl K k 1 x1 x2 x3 x5 x6 x9 w3 w7 r0 z = some z1 → W p l e ({ frames := 1, cells := 0, slots := 0, locals := 60 } : Room) s m args below meth c H locs 0 0 QQ (F0 m 25 ls [])) ∧ (∀ (x1 : Int32) (x2 : Int32) (x3 : Int32) (x5 : Int32) (x6 : Int32) (x9 : Int32) (w3 : Int64) (w7 : Int64) (r0 : Nat) (z : ow_MS) (H : Heap) (locs : List Loc) (ls : Array Slot), cw_X4 r0 → uw_M D vwCl (cX vl) q (tw_A (cX vl) u) s.heap u z H locs → lv_has ls 10 [(0, .ref (u r0)), (1, .int x1), (2, .int x2), (3, .int x3)] → c_X4_findCharacteristic vl K k 2 x1 x2 x3 x5 x6 x9 w3 w7 r0 z = some z1 → W p l e ({ frames := 1, cells := 0, slots := 0, locals := 60 } : Room) s m args below meth c H locs 0 0 QQ (F0 m 32 ls [])) ∧ (∀ (x1 : Int32) (x2 : Int32) (x3 : Int32) (x5 : Int32) (x6 : Int32) (x9 : Int32) (w3 : Int64) (w7 : Int64) (r0 : Nat) (z : ow_MS) (H : Heap) (locs : List Loc) (ls : Array Slot), cw_X4 r0 → uw_M D vwCl (cX vl) q (tw_A (cX vl) u) s.heap u z H locs → lv_has ls 10 [(0, .ref (u r0)), (1, .int x1), (2, .int x2), (3, .long w3), (5, .int x5)] → c_X4_findCharacteristic vl K k 3 x1 x2 x3 x5 x6 x9 w3 w7 r0 z = some z1 → W p l e ({ frames := 1, cells := 0, slots := 0, locals := 60 } : Room) s m args below meth c H locs 0 0 QQ (F0 m 72 ls [])) ∧ (∀ (x1 : Int32) (x2 : Int32) (x3 : Int32) (x5 : Int32) (x6 : Int32) (x9 : Int32) (w3 : Int64) (w7 : Int64) (r0 : Nat) (z : ow_MS) (H : Heap) (locs : List Loc) (ls : Array Slot), cw_X4 r0 → uw_M D vwCl (cX vl) q (tw_A (cX vl) u) s.heap u z H locs → lv_has ls 10 [(0, .ref (u r0)), (1, .int x1), (2, .int x2), (3, .long w3), (5, .int x5), (6, .int x6)] → c_X4_findCharacteristic vl K k 4 x1 x2 x3 x5 x6 x9 w3 w7 r0 z = some z1 → W p l e ({ frames := 1, cells := 0, slots := 0, locals := 60 } : Room) s m args below meth c H locs 0 0 QQ (F0 m 81 ls [])) ∧ (∀ (x1 : Int32) (x2 : Int32) (x3 : Int32) (x5 : Int32) (x6 : Int32) (x9 : Int32) (w3 : Int64) (w7 : Int64) (r0 : Nat) (z : ow_MS) (H : Heap) (locs : List Loc) (ls : Array Slot), cw_X4 r0 → uw_M D vwCl (cX vl) q (tw_A (cX vl) u) s.heap u z H locs → lv_has ls 10 [(0, .ref (u r0)), (1, .int x1), (2, .int x2), (3, .long w3), (5, .int x5), (6, .int x6), (7, .long w7), (9, .int x9)] → c_X4_findCharacteristic vl K k 5 x1 x2 x3 x5 x6 x9 w3 w7 r0 z = some z1 → W p l e ({ frames := 1, cells := 0, slots := 0, locals := 60 } : Room) s m args below meth c H locs 0 0 QQ (F0 m 93 ls [])) := by
    intro k
    induction k with
    | zero => exact ⟨fun _ _ _ _ _ _ _ _ _ _ _ _ _ _ _ _ hq => cw_no hq, fun _ _ _ _ _ _ _ _ _ _ _ _ _ _ _ _ hq => cw_no hq, fun _ _ _ _ _ _ _ _ _ _ _ _ _ _ _ _ hq => cw_no hq, fun _ _ _ _ _ _ _ _ _ _ _ _ _ _ _ _ hq => cw_no hq, fun _ _ _ _ _ _ _ _ _ _ _ _ _ _ _ _ hq => cw_no hq, fun _ _ _ _ _ _ _ _ _ _ _ _ _ _ _ _ hq => cw_no hq⟩
    | succ k ih =>
      obtain ⟨ih_0, ih_1, ih_2, ih_3, ih_4, ih_5⟩ := ih
      refine ⟨?_, ?_, ?_, ?_, ?_, ?_⟩
      · intro x1 x2 x3 x5 x6 x9 w3 w7 r0 z H locs ls hr0 hM hl hq
        have hq : cm_X4_findCharacteristic_0 vl K (c_X4_findCharacteristic vl K k) x1 x2 x3 x5 x6 x9 w3 w7 r0 z = some z1 := hq
        unfold cm_X4_findCharacteristic_0 at hq
        refine lv_aload_n hx hb dcX4_findCharacteristic_0 rfl (lv_at hl 0 rfl) ?_
        refine vgX4_31 hx hb hT hown hK hM hr0 dcX4_findCharacteristic_1 ?_
        refine lv_lconst (v := 0) hx hb dcX4_findCharacteristic_4 rfl ?_
        obtain ⟨z1, hcq, hq⟩ := tw_cl0 hq
        refine uw_calv hU hM (va_runS (As := [.ref (u (r0 + 8)), .long 0]) (rest := []) ⟨hx, hb, hml, hown, hts⟩ (kc_J7_fill_d0a16 l D q vl u hU.1 K (r0 + 8) 0 (cr_X4_7 hr0) z z1 hcq) (va_cwS 2 hts (tw_gS wC_good xq_378 xq_26 xq_9 xq_27) rfl rfl rfl cdd_J7_fill_d0a16 ⟨(Nat.le_of_ble_eq_true rfl), (Nat.le_of_ble_eq_true rfl)⟩) (cw_preS hK hM) rfl rfl hl.1 rfl (lv_room (Nat.le_of_ble_eq_true rfl)) dcX4_findCharacteristic_5 ⟨(Nat.le_of_ble_eq_true rfl), (Nat.le_of_ble_eq_true rfl)⟩) (fun H locs hM => ?_)
        refine lv_aload_n hx hb dcX4_findCharacteristic_8 rfl (lv_at hl 0 rfl) ?_
        refine vgX4_25 hx hb hT hown hK hM hr0 dcX4_findCharacteristic_9 ?_
        refine lv_lconst (v := 0) hx hb dcX4_findCharacteristic_12 rfl ?_
        obtain ⟨z2, hcq, hq⟩ := tw_cl0 hq
        refine uw_calv hU hM (va_runS (As := [.ref (u (r0 + 6)), .long 0]) (rest := []) ⟨hx, hb, hml, hown, hts⟩ (kc_J7_fill_d0a16 l D q vl u hU.1 K (r0 + 6) 0 (cr_X4_5 hr0) z1 z2 hcq) (va_cwS 2 hts (tw_gS wC_good xq_378 xq_26 xq_9 xq_27) rfl rfl rfl cdd_J7_fill_d0a16 ⟨(Nat.le_of_ble_eq_true rfl), (Nat.le_of_ble_eq_true rfl)⟩) (cw_preS hK hM) rfl rfl hl.1 rfl (lv_room (Nat.le_of_ble_eq_true rfl)) dcX4_findCharacteristic_13 ⟨(Nat.le_of_ble_eq_true rfl), (Nat.le_of_ble_eq_true rfl)⟩) (fun H locs hM => ?_)
        refine lv_aload_n hx hb dcX4_findCharacteristic_16 rfl (lv_at hl 0 rfl) ?_
        refine vgX4_31 hx hb hT hown hK hM hr0 dcX4_findCharacteristic_17 ?_
        refine lv_iload_n hx hb dcX4_findCharacteristic_20 rfl (lv_at hl 1 rfl) ?_
        refine lv_lconst (v := 1) hx hb dcX4_findCharacteristic_21 rfl ?_
        refine uw_last cX_ok hU hx hb hK hM (cr_X4_7 hr0) hq dcX4_findCharacteristic_22 (fun z3 H locs hM hq => ?_)
        refine lv_iconst (v := 1) hx hb dcX4_findCharacteristic_23 (by decide) ?_
        refine lv_istore_n (lv' := [(2, .int 1), (0, .ref (u r0)), (1, .int x1)]) hx hb dcX4_findCharacteristic_24 rfl hl (by decide) rfl (fun ls hl => ?_)
        exact ih_1 x1 1 0 0 0 0 0 0 r0 z3 H locs ls hr0 hM (lv_sub hl [1, 2, 0] rfl) hq
      · intro x1 x2 x3 x5 x6 x9 w3 w7 r0 z H locs ls hr0 hM hl hq
        have hq : cm_X4_findCharacteristic_1 vl K (c_X4_findCharacteristic vl K k) x1 x2 x3 x5 x6 x9 w3 w7 r0 z = some z1 := hq
        unfold cm_X4_findCharacteristic_1 at hq
        refine lv_iload_n hx hb dcX4_findCharacteristic_25 rfl (lv_at hl 2 rfl) ?_
        refine lv_iload_n hx hb dcX4_findCharacteristic_26 rfl (lv_at hl 1 rfl) ?_
        refine lv_icmp_gt (tgt := 217) hx hb dcX4_findCharacteristic_27 (by decide) (fun hc => ?_) (fun hc => ?_)
        · have hq := tw_it hq hc
          exact cw_vret hx hb hr hlocks hM hq hQQ dcX4_findCharacteristic_217
        · have hq := tw_if hq hc
          refine lv_iconst (v := 0) hx hb dcX4_findCharacteristic_30 (by decide) ?_
          refine lv_istore_n (lv' := [(3, .int 0), (0, .ref (u r0)), (1, .int x1), (2, .int x2)]) hx hb dcX4_findCharacteristic_31 rfl hl (by decide) rfl (fun ls hl => ?_)
          exact ih_2 x1 x2 0 0 0 0 0 0 r0 z H locs ls hr0 hM (lv_sub hl [1, 2, 3, 0] rfl) hq
      · intro x1 x2 x3 x5 x6 x9 w3 w7 r0 z H locs ls hr0 hM hl hq
        have hq : cm_X4_findCharacteristic_2 vl K (c_X4_findCharacteristic vl K k) x1 x2 x3 x5 x6 x9 w3 w7 r0 z = some z1 := hq
        unfold cm_X4_findCharacteristic_2 at hq
        refine lv_iload_n hx hb dcX4_findCharacteristic_32 rfl (lv_at hl 3 rfl) ?_
        refine lv_iload_n hx hb dcX4_findCharacteristic_33 rfl (lv_at hl 1 rfl) ?_
        refine lv_icmp_ge (tgt := 67) hx hb dcX4_findCharacteristic_34 (by decide) (fun hc => ?_) (fun hc => ?_)
        · have hq := tw_it hq hc
          refine lv_lconst (v := 0) hx hb dcX4_findCharacteristic_67 rfl ?_
          refine lv_lstore_n (lv' := [(3, .long 0), (0, .ref (u r0)), (1, .int x1), (2, .int x2)]) hx hb dcX4_findCharacteristic_68 rfl hl (by decide) rfl (fun ls hl => ?_)
          refine lv_iconst (v := 0) hx hb dcX4_findCharacteristic_69 (by decide) ?_
          refine lv_istore (lv' := [(5, .int 0), (3, .long 0), (0, .ref (u r0)), (1, .int x1), (2, .int x2)]) hx hb dcX4_findCharacteristic_70 hl (by decide) rfl (fun ls hl => ?_)
          exact ih_3 x1 x2 0 0 0 0 0 0 r0 z H locs ls hr0 hM (lv_sub hl [2, 3, 4, 1, 0] rfl) hq
        · have hq := tw_if hq hc
          refine lv_aload_n hx hb dcX4_findCharacteristic_37 rfl (lv_at hl 0 rfl) ?_
          refine vgX4_25 hx hb hT hown hK hM hr0 dcX4_findCharacteristic_38 ?_
          refine lv_iload_n hx hb dcX4_findCharacteristic_41 rfl (lv_at hl 3 rfl) ?_
          refine lv_bipush (v := 8) hx hb dcX4_findCharacteristic_42 (by decide) ?_
          refine lv_imul hx hb dcX4_findCharacteristic_44 ?_
          refine lv_iload_n hx hb dcX4_findCharacteristic_45 rfl (lv_at hl 3 rfl) ?_
          refine lv_iadd hx hb dcX4_findCharacteristic_46 ?_
          refine lv_dup2_11 hx hb dcX4_findCharacteristic_47 rfl rfl ?_
          refine uw_lald cX_ok hx hb hK hM (cr_X4_5 hr0) hq dcX4_findCharacteristic_48 (fun v4 hq => ?_)
          refine lv_aload_n hx hb dcX4_findCharacteristic_49 rfl (lv_at hl 0 rfl) ?_
          refine vgX4_31 hx hb hT hown hK hM hr0 dcX4_findCharacteristic_50 ?_
          refine lv_iload_n hx hb dcX4_findCharacteristic_53 rfl (lv_at hl 1 rfl) ?_
          refine lv_iload_n hx hb dcX4_findCharacteristic_54 rfl (lv_at hl 2 rfl) ?_
          refine lv_isub hx hb dcX4_findCharacteristic_55 ?_
          refine lv_iconst (v := 1) hx hb dcX4_findCharacteristic_56 (by decide) ?_
          refine lv_iadd hx hb dcX4_findCharacteristic_57 ?_
          refine uw_lald cX_ok hx hb hK hM (cr_X4_7 hr0) hq dcX4_findCharacteristic_58 (fun v5 hq => ?_)
          refine lv_ladd hx hb dcX4_findCharacteristic_59 ?_
          refine uw_last cX_ok hU hx hb hK hM (cr_X4_5 hr0) hq dcX4_findCharacteristic_60 (fun z6 H locs hM hq => ?_)
          refine lv_iinc (v := (x3 + 1)) (lv' := [(3, .int (x3 + 1)), (0, .ref (u r0)), (1, .int x1), (2, .int x2)]) hx hb dcX4_findCharacteristic_61 hl (k := 3) rfl rfl (by decide) rfl (fun ls hl => ?_)
          refine lv_goto (tgt := 32) hx hb dcX4_findCharacteristic_64 (by decide) ?_
          exact ih_2 x1 x2 (x3 + 1) 0 0 0 0 0 r0 z6 H locs ls hr0 hM (lv_sub hl [1, 2, 3, 0] rfl) hq
      · intro x1 x2 x3 x5 x6 x9 w3 w7 r0 z H locs ls hr0 hM hl hq
        have hq : cm_X4_findCharacteristic_3 vl K (c_X4_findCharacteristic vl K k) x1 x2 x3 x5 x6 x9 w3 w7 r0 z = some z1 := hq
        unfold cm_X4_findCharacteristic_3 at hq
        refine lv_iload hx hb dcX4_findCharacteristic_72 (lv_at hl 4 rfl) ?_
        refine lv_iload_n hx hb dcX4_findCharacteristic_74 rfl (lv_at hl 1 rfl) ?_
        refine lv_icmp_ge (tgt := 180) hx hb dcX4_findCharacteristic_75 (by decide) (fun hc => ?_) (fun hc => ?_)
        · have hq := tw_it hq hc
          refine lv_aload_n hx hb dcX4_findCharacteristic_180 rfl (lv_at hl 0 rfl) ?_
          refine vgX4_31 hx hb hT hown hK hM hr0 dcX4_findCharacteristic_181 ?_
          refine lv_iload_n hx hb dcX4_findCharacteristic_184 rfl (lv_at hl 1 rfl) ?_
          refine lv_iload_n hx hb dcX4_findCharacteristic_185 rfl (lv_at hl 2 rfl) ?_
          refine lv_isub hx hb dcX4_findCharacteristic_186 ?_
          refine lv_lload_n hx hb dcX4_findCharacteristic_187 rfl (lv_at hl 3 rfl) ?_
          refine lv_lneg hx hb dcX4_findCharacteristic_188 ?_
          refine lv_iload_n hx hb dcX4_findCharacteristic_189 rfl (lv_at hl 2 rfl) ?_
          refine lv_i2l hx hb dcX4_findCharacteristic_190 rfl ?_
          obtain ⟨hz, hq⟩ := tw_nzJ hq
          refine lv_ldiv hx hb dcX4_findCharacteristic_191 hz ?_
          refine uw_last cX_ok hU hx hb hK hM (cr_X4_7 hr0) hq dcX4_findCharacteristic_192 (fun z7 H locs hM hq => ?_)
          refine lv_aload_n hx hb dcX4_findCharacteristic_193 rfl (lv_at hl 0 rfl) ?_
          refine vgX4_28 hx hb hT hown hK hM hr0 dcX4_findCharacteristic_194 ?_
          refine lv_iconst (v := 0) hx hb dcX4_findCharacteristic_197 (by decide) ?_
          refine lv_aload_n hx hb dcX4_findCharacteristic_198 rfl (lv_at hl 0 rfl) ?_
          refine vgX4_25 hx hb hT hown hK hM hr0 dcX4_findCharacteristic_199 ?_
          refine lv_iconst (v := 0) hx hb dcX4_findCharacteristic_202 (by decide) ?_
          refine lv_aload_n hx hb dcX4_findCharacteristic_203 rfl (lv_at hl 0 rfl) ?_
          refine vgX4_28 hx hb hT hown hK hM hr0 dcX4_findCharacteristic_204 ?_
          refine uw_alen2 cX_ok hx hb hK hM (cr_X4_6 hr0) dcX4_findCharacteristic_207 ?_
          refine uw_cpJ cX_ok hU hx hb (by rw [hml]; exact hl.1.symm) hown (hT _ xq_394) (hT _ xq_130) (hT _ xq_131) (hT _ xq_132) hK hM (cr_X4_6 hr0) (cr_X4_5 hr0) hq (Nat.le_of_ble_eq_true rfl) (by decide) dcX4_findCharacteristic_208 (fun z8 H locs hM hq => ?_)
          refine lv_iinc (v := (x2 + 1)) (lv' := [(2, .int (x2 + 1)), (0, .ref (u r0)), (1, .int x1), (3, .long w3), (5, .int x5)]) hx hb dcX4_findCharacteristic_211 hl (k := 2) rfl rfl (by decide) rfl (fun ls hl => ?_)
          refine lv_goto (tgt := 25) hx hb dcX4_findCharacteristic_214 (by decide) ?_
          exact ih_1 x1 (x2 + 1) 0 0 0 0 0 0 r0 z8 H locs ls hr0 hM (lv_sub hl [1, 2, 0] rfl) hq
        · have hq := tw_if hq hc
          refine lv_iconst (v := 0) hx hb dcX4_findCharacteristic_78 (by decide) ?_
          refine lv_istore (lv' := [(6, .int 0), (0, .ref (u r0)), (1, .int x1), (2, .int x2), (3, .long w3), (5, .int x5)]) hx hb dcX4_findCharacteristic_79 hl (by decide) rfl (fun ls hl => ?_)
          exact ih_4 x1 x2 0 x5 0 0 w3 0 r0 z H locs ls hr0 hM (lv_sub hl [1, 2, 3, 4, 5, 0] rfl) hq
      · intro x1 x2 x3 x5 x6 x9 w3 w7 r0 z H locs ls hr0 hM hl hq
        have hq : cm_X4_findCharacteristic_4 vl K (c_X4_findCharacteristic vl K k) x1 x2 x3 x5 x6 x9 w3 w7 r0 z = some z1 := hq
        unfold cm_X4_findCharacteristic_4 at hq
        refine lv_iload hx hb dcX4_findCharacteristic_81 (lv_at hl 5 rfl) ?_
        refine lv_iload_n hx hb dcX4_findCharacteristic_83 rfl (lv_at hl 1 rfl) ?_
        refine lv_icmp_ge (tgt := 158) hx hb dcX4_findCharacteristic_84 (by decide) (fun hc => ?_) (fun hc => ?_)
        · have hq := tw_it hq hc
          refine lv_lload_n hx hb dcX4_findCharacteristic_158 rfl (lv_at hl 3 rfl) ?_
          refine lv_aload_n hx hb dcX4_findCharacteristic_159 rfl (lv_at hl 0 rfl) ?_
          refine vgX4_28 hx hb hT hown hK hM hr0 dcX4_findCharacteristic_160 ?_
          refine lv_iload hx hb dcX4_findCharacteristic_163 (lv_at hl 4 rfl) ?_
          refine lv_bipush (v := 8) hx hb dcX4_findCharacteristic_165 (by decide) ?_
          refine lv_imul hx hb dcX4_findCharacteristic_167 ?_
          refine lv_iload hx hb dcX4_findCharacteristic_168 (lv_at hl 4 rfl) ?_
          refine lv_iadd hx hb dcX4_findCharacteristic_170 ?_
          refine uw_lald cX_ok hx hb hK hM (cr_X4_6 hr0) hq dcX4_findCharacteristic_171 (fun v9 hq => ?_)
          refine lv_ladd hx hb dcX4_findCharacteristic_172 ?_
          refine lv_lstore_n (lv' := [(3, .long (w3 + v9)), (0, .ref (u r0)), (1, .int x1), (2, .int x2), (5, .int x5), (6, .int x6)]) hx hb dcX4_findCharacteristic_173 rfl hl (by decide) rfl (fun ls hl => ?_)
          refine lv_iinc (v := (x5 + 1)) (lv' := [(5, .int (x5 + 1)), (3, .long (w3 + v9)), (0, .ref (u r0)), (1, .int x1), (2, .int x2), (6, .int x6)]) hx hb dcX4_findCharacteristic_174 hl (k := 4) rfl rfl (by decide) rfl (fun ls hl => ?_)
          refine lv_goto (tgt := 72) hx hb dcX4_findCharacteristic_177 (by decide) ?_
          exact ih_3 x1 x2 0 (x5 + 1) 0 0 (w3 + v9) 0 r0 z H locs ls hr0 hM (lv_sub hl [2, 3, 4, 1, 0] rfl) hq
        · have hq := tw_if hq hc
          refine lv_lconst (v := 0) hx hb dcX4_findCharacteristic_87 rfl ?_
          refine lv_lstore (lv' := [(7, .long 0), (0, .ref (u r0)), (1, .int x1), (2, .int x2), (3, .long w3), (5, .int x5), (6, .int x6)]) hx hb dcX4_findCharacteristic_88 hl (by decide) rfl (fun ls hl => ?_)
          refine lv_iconst (v := 0) hx hb dcX4_findCharacteristic_90 (by decide) ?_
          refine lv_istore (lv' := [(9, .int 0), (7, .long 0), (0, .ref (u r0)), (1, .int x1), (2, .int x2), (3, .long w3), (5, .int x5), (6, .int x6)]) hx hb dcX4_findCharacteristic_91 hl (by decide) rfl (fun ls hl => ?_)
          exact ih_5 x1 x2 0 x5 x6 0 w3 0 r0 z H locs ls hr0 hM (lv_sub hl [2, 3, 4, 5, 6, 7, 1, 0] rfl) hq
      · intro x1 x2 x3 x5 x6 x9 w3 w7 r0 z H locs ls hr0 hM hl hq
        have hq : cm_X4_findCharacteristic_5 vl K (c_X4_findCharacteristic vl K k) x1 x2 x3 x5 x6 x9 w3 w7 r0 z = some z1 := hq
        unfold cm_X4_findCharacteristic_5 at hq
        refine lv_iload hx hb dcX4_findCharacteristic_93 (lv_at hl 7 rfl) ?_
        refine lv_iload_n hx hb dcX4_findCharacteristic_95 rfl (lv_at hl 1 rfl) ?_
        refine lv_icmp_ge (tgt := 137) hx hb dcX4_findCharacteristic_96 (by decide) (fun hc => ?_) (fun hc => ?_)
        · have hq := tw_it hq hc
          refine lv_aload_n hx hb dcX4_findCharacteristic_137 rfl (lv_at hl 0 rfl) ?_
          refine vgX4_28 hx hb hT hown hK hM hr0 dcX4_findCharacteristic_138 ?_
          refine lv_iload hx hb dcX4_findCharacteristic_141 (lv_at hl 4 rfl) ?_
          refine lv_bipush (v := 8) hx hb dcX4_findCharacteristic_143 (by decide) ?_
          refine lv_imul hx hb dcX4_findCharacteristic_145 ?_
          refine lv_iload hx hb dcX4_findCharacteristic_146 (lv_at hl 5 rfl) ?_
          refine lv_iadd hx hb dcX4_findCharacteristic_148 ?_
          refine lv_lload hx hb dcX4_findCharacteristic_149 (lv_at hl 6 rfl) ?_
          refine uw_last cX_ok hU hx hb hK hM (cr_X4_6 hr0) hq dcX4_findCharacteristic_151 (fun z10 H locs hM hq => ?_)
          refine lv_iinc (v := (x6 + 1)) (lv' := [(6, .int (x6 + 1)), (0, .ref (u r0)), (1, .int x1), (2, .int x2), (3, .long w3), (5, .int x5), (7, .long w7), (9, .int x9)]) hx hb dcX4_findCharacteristic_152 hl (k := 5) rfl rfl (by decide) rfl (fun ls hl => ?_)
          refine lv_goto (tgt := 81) hx hb dcX4_findCharacteristic_155 (by decide) ?_
          exact ih_4 x1 x2 0 x5 (x6 + 1) 0 w3 0 r0 z10 H locs ls hr0 hM (lv_sub hl [1, 2, 3, 4, 5, 0] rfl) hq
        · have hq := tw_if hq hc
          refine lv_lload hx hb dcX4_findCharacteristic_99 (lv_at hl 6 rfl) ?_
          refine lv_aload_n hx hb dcX4_findCharacteristic_101 rfl (lv_at hl 0 rfl) ?_
          refine vgX4_21 hx hb hT hown hK hM hr0 dcX4_findCharacteristic_102 ?_
          refine lv_iload hx hb dcX4_findCharacteristic_105 (lv_at hl 4 rfl) ?_
          refine lv_bipush (v := 8) hx hb dcX4_findCharacteristic_107 (by decide) ?_
          refine lv_imul hx hb dcX4_findCharacteristic_109 ?_
          refine lv_iload hx hb dcX4_findCharacteristic_110 (lv_at hl 7 rfl) ?_
          refine lv_iadd hx hb dcX4_findCharacteristic_112 ?_
          refine uw_lald cX_ok hx hb hK hM (cr_X4_4 hr0) hq dcX4_findCharacteristic_113 (fun v11 hq => ?_)
          refine lv_aload_n hx hb dcX4_findCharacteristic_114 rfl (lv_at hl 0 rfl) ?_
          refine vgX4_25 hx hb hT hown hK hM hr0 dcX4_findCharacteristic_115 ?_
          refine lv_iload hx hb dcX4_findCharacteristic_118 (lv_at hl 7 rfl) ?_
          refine lv_bipush (v := 8) hx hb dcX4_findCharacteristic_120 (by decide) ?_
          refine lv_imul hx hb dcX4_findCharacteristic_122 ?_
          refine lv_iload hx hb dcX4_findCharacteristic_123 (lv_at hl 5 rfl) ?_
          refine lv_iadd hx hb dcX4_findCharacteristic_125 ?_
          refine uw_lald cX_ok hx hb hK hM (cr_X4_5 hr0) hq dcX4_findCharacteristic_126 (fun v12 hq => ?_)
          refine lv_lmul hx hb dcX4_findCharacteristic_127 ?_
          refine lv_ladd hx hb dcX4_findCharacteristic_128 ?_
          refine lv_lstore (lv' := [(7, .long (w7 + (v11 * v12))), (0, .ref (u r0)), (1, .int x1), (2, .int x2), (3, .long w3), (5, .int x5), (6, .int x6), (9, .int x9)]) hx hb dcX4_findCharacteristic_129 hl (by decide) rfl (fun ls hl => ?_)
          refine lv_iinc (v := (x9 + 1)) (lv' := [(9, .int (x9 + 1)), (7, .long (w7 + (v11 * v12))), (0, .ref (u r0)), (1, .int x1), (2, .int x2), (3, .long w3), (5, .int x5), (6, .int x6)]) hx hb dcX4_findCharacteristic_131 hl (k := 7) rfl rfl (by decide) rfl (fun ls hl => ?_)
          refine lv_goto (tgt := 93) hx hb dcX4_findCharacteristic_134 (by decide) ?_
          exact ih_5 x1 x2 0 x5 x6 (x9 + 1) w3 (w7 + (v11 * v12)) r0 z H locs ls hr0 hM (lv_sub hl [2, 3, 4, 5, 6, 7, 1, 0] rfl) hq
  exact (key K).1 x1 0 0 0 0 0 0 0 r0 z s.heap [] ls hr0 hM (lv_sub hl [0, 1] rfl) hq
theorem dcX4_signChanges_0 : decode cX4_signChanges 0 = .ok (.iconst 0, 1) := dw_at cX4_signChanges_k0 (p := 0) rfl (by decide +kernel)
theorem dcX4_signChanges_1 : decode cX4_signChanges 1 = .ok (.istore_n 3, 1) := dw_at cX4_signChanges_k0 (p := 1) rfl (by decide +kernel)
theorem dcX4_signChanges_2 : decode cX4_signChanges 2 = .ok (.lconst 0, 1) := dw_at cX4_signChanges_k0 (p := 2) rfl (by decide +kernel)
theorem dcX4_signChanges_3 : decode cX4_signChanges 3 = .ok (.lstore 4, 2) := dw_at cX4_signChanges_k0 (p := 3) rfl (by decide +kernel)
theorem dcX4_signChanges_5 : decode cX4_signChanges 5 = .ok (.iconst 0, 1) := dw_at cX4_signChanges_k0 (p := 5) rfl (by decide +kernel)
theorem dcX4_signChanges_6 : decode cX4_signChanges 6 = .ok (.istore 6, 2) := dw_at cX4_signChanges_k0 (p := 6) rfl (by decide +kernel)
theorem dcX4_signChanges_8 : decode cX4_signChanges 8 = .ok (.iload 6, 2) := dw_at cX4_signChanges_k0 (p := 8) rfl (by decide +kernel)
theorem dcX4_signChanges_10 : decode cX4_signChanges 10 = .ok (.iload_n 1, 1) := dw_at cX4_signChanges_k0 (p := 10) rfl (by decide +kernel)
theorem dcX4_signChanges_11 : decode cX4_signChanges 11 = .ok (.if_icmp .gt 79, 3) := dw_at cX4_signChanges_k0 (p := 11) rfl (by decide +kernel)
theorem dcX4_signChanges_14 : decode cX4_signChanges 14 = .ok (.aload_n 0, 1) := dw_at cX4_signChanges_k0 (p := 14) rfl (by decide +kernel)
theorem dcX4_signChanges_15 : decode cX4_signChanges 15 = .ok (.getfield 31, 3) := dw_at cX4_signChanges_k0 (p := 15) rfl (by decide +kernel)
theorem dcX4_signChanges_18 : decode cX4_signChanges 18 = .ok (.iload 6, 2) := dw_at cX4_signChanges_k0 (p := 18) rfl (by decide +kernel)
theorem dcX4_signChanges_20 : decode cX4_signChanges 20 = .ok (.laload, 1) := dw_at cX4_signChanges_k0 (p := 20) rfl (by decide +kernel)
theorem dcX4_signChanges_21 : decode cX4_signChanges 21 = .ok (.iload_n 2, 1) := dw_at cX4_signChanges_k0 (p := 21) rfl (by decide +kernel)
theorem dcX4_signChanges_22 : decode cX4_signChanges 22 = .ok (.ifCond .ge 15, 3) := dw_at cX4_signChanges_k0 (p := 22) rfl (by decide +kernel)
theorem dcX4_signChanges_25 : decode cX4_signChanges 25 = .ok (.iload 6, 2) := dw_at cX4_signChanges_k1 (p := 0) rfl (by decide +kernel)
theorem dcX4_signChanges_27 : decode cX4_signChanges 27 = .ok (.iconst 1, 1) := dw_at cX4_signChanges_k1 (p := 2) rfl (by decide +kernel)
theorem dcX4_signChanges_28 : decode cX4_signChanges 28 = .ok (.iand, 1) := dw_at cX4_signChanges_k1 (p := 3) rfl (by decide +kernel)
theorem dcX4_signChanges_29 : decode cX4_signChanges 29 = .ok (.iconst 1, 1) := dw_at cX4_signChanges_k1 (p := 4) rfl (by decide +kernel)
theorem dcX4_signChanges_30 : decode cX4_signChanges 30 = .ok (.if_icmp .ne 7, 3) := dw_at cX4_signChanges_k1 (p := 5) rfl (by decide +kernel)
theorem dcX4_signChanges_33 : decode cX4_signChanges 33 = .ok (.iconst (-1), 1) := dw_at cX4_signChanges_k1 (p := 8) rfl (by decide +kernel)
theorem dcX4_signChanges_34 : decode cX4_signChanges 34 = .ok (.goto 4, 3) := dw_at cX4_signChanges_k1 (p := 9) rfl (by decide +kernel)
theorem dcX4_signChanges_37 : decode cX4_signChanges 37 = .ok (.iconst 1, 1) := dw_at cX4_signChanges_k1 (p := 12) rfl (by decide +kernel)
theorem dcX4_signChanges_38 : decode cX4_signChanges 38 = .ok (.i2l, 1) := dw_at cX4_signChanges_k1 (p := 13) rfl (by decide +kernel)
theorem dcX4_signChanges_39 : decode cX4_signChanges 39 = .ok (.lmul, 1) := dw_at cX4_signChanges_k1 (p := 14) rfl (by decide +kernel)
theorem dcX4_signChanges_40 : decode cX4_signChanges 40 = .ok (.lstore 7, 2) := dw_at cX4_signChanges_k1 (p := 15) rfl (by decide +kernel)
theorem dcX4_signChanges_42 : decode cX4_signChanges 42 = .ok (.lload 7, 2) := dw_at cX4_signChanges_k1 (p := 17) rfl (by decide +kernel)
theorem dcX4_signChanges_44 : decode cX4_signChanges 44 = .ok (.lconst 0, 1) := dw_at cX4_signChanges_k1 (p := 19) rfl (by decide +kernel)
theorem dcX4_signChanges_45 : decode cX4_signChanges 45 = .ok (.lcmp, 1) := dw_at cX4_signChanges_k1 (p := 20) rfl (by decide +kernel)
theorem dcX4_signChanges_46 : decode cX4_signChanges 46 = .ok (.ifCond .eq 38, 3) := dw_at cX4_signChanges_k1 (p := 21) rfl (by decide +kernel)
theorem dcX4_signChanges_49 : decode cX4_signChanges 49 = .ok (.lload 4, 2) := dw_at cX4_signChanges_k2 (p := 0) rfl (by decide +kernel)
theorem dcX4_signChanges_51 : decode cX4_signChanges 51 = .ok (.lconst 0, 1) := dw_at cX4_signChanges_k2 (p := 2) rfl (by decide +kernel)
theorem dcX4_signChanges_52 : decode cX4_signChanges 52 = .ok (.lcmp, 1) := dw_at cX4_signChanges_k2 (p := 3) rfl (by decide +kernel)
theorem dcX4_signChanges_53 : decode cX4_signChanges 53 = .ok (.ifCond .ge 10, 3) := dw_at cX4_signChanges_k2 (p := 4) rfl (by decide +kernel)
theorem dcX4_signChanges_56 : decode cX4_signChanges 56 = .ok (.lload 7, 2) := dw_at cX4_signChanges_k2 (p := 7) rfl (by decide +kernel)
theorem dcX4_signChanges_58 : decode cX4_signChanges 58 = .ok (.lconst 0, 1) := dw_at cX4_signChanges_k2 (p := 9) rfl (by decide +kernel)
theorem dcX4_signChanges_59 : decode cX4_signChanges 59 = .ok (.lcmp, 1) := dw_at cX4_signChanges_k2 (p := 10) rfl (by decide +kernel)
theorem dcX4_signChanges_60 : decode cX4_signChanges 60 = .ok (.ifCond .gt 17, 3) := dw_at cX4_signChanges_k2 (p := 11) rfl (by decide +kernel)
theorem dcX4_signChanges_63 : decode cX4_signChanges 63 = .ok (.lload 4, 2) := dw_at cX4_signChanges_k2 (p := 14) rfl (by decide +kernel)
theorem dcX4_signChanges_65 : decode cX4_signChanges 65 = .ok (.lconst 0, 1) := dw_at cX4_signChanges_k2 (p := 16) rfl (by decide +kernel)
theorem dcX4_signChanges_66 : decode cX4_signChanges 66 = .ok (.lcmp, 1) := dw_at cX4_signChanges_k2 (p := 17) rfl (by decide +kernel)
theorem dcX4_signChanges_67 : decode cX4_signChanges 67 = .ok (.ifCond .le 13, 3) := dw_at cX4_signChanges_k2 (p := 18) rfl (by decide +kernel)
theorem dcX4_signChanges_70 : decode cX4_signChanges 70 = .ok (.lload 7, 2) := dw_at cX4_signChanges_k2 (p := 21) rfl (by decide +kernel)
theorem dcX4_signChanges_72 : decode cX4_signChanges 72 = .ok (.lconst 0, 1) := dw_at cX4_signChanges_k2 (p := 23) rfl (by decide +kernel)
theorem dcX4_signChanges_73 : decode cX4_signChanges 73 = .ok (.lcmp, 1) := dw_at cX4_signChanges_k3 (p := 0) rfl (by decide +kernel)
theorem dcX4_signChanges_74 : decode cX4_signChanges 74 = .ok (.ifCond .ge 6, 3) := dw_at cX4_signChanges_k3 (p := 1) rfl (by decide +kernel)
theorem dcX4_signChanges_77 : decode cX4_signChanges 77 = .ok (.iinc 3 1, 3) := dw_at cX4_signChanges_k3 (p := 4) rfl (by decide +kernel)
theorem dcX4_signChanges_80 : decode cX4_signChanges 80 = .ok (.lload 7, 2) := dw_at cX4_signChanges_k3 (p := 7) rfl (by decide +kernel)
theorem dcX4_signChanges_82 : decode cX4_signChanges 82 = .ok (.lstore 4, 2) := dw_at cX4_signChanges_k3 (p := 9) rfl (by decide +kernel)
theorem dcX4_signChanges_84 : decode cX4_signChanges 84 = .ok (.iinc 6 1, 3) := dw_at cX4_signChanges_k3 (p := 11) rfl (by decide +kernel)
theorem dcX4_signChanges_87 : decode cX4_signChanges 87 = .ok (.goto (-79), 3) := dw_at cX4_signChanges_k3 (p := 14) rfl (by decide +kernel)
theorem dcX4_signChanges_90 : decode cX4_signChanges 90 = .ok (.iload_n 3, 1) := dw_at cX4_signChanges_k3 (p := 17) rfl (by decide +kernel)
theorem dcX4_signChanges_91 : decode cX4_signChanges 91 = .ok (.ireturn, 1) := dw_at cX4_signChanges_k3 (p := 18) rfl (by decide +kernel)
def cm_X4_signChanges_0 (vl : Nat → Nat) (K : Nat) (go : Nat → Int32 → Int32 → Int32 → Int32 → Int64 → Int64 → Nat → Int32 → Int64 → Int64 → ow_MS → Option (Int32 × ow_MS)) (x1 : Int32) (x2 : Int32) (x3 : Int32) (x6 : Int32) (w4 : Int64) (w7 : Int64) (r0 : Nat) (t0 : Int32) (y0 : Int64) (y1 : Int64) (z : ow_MS) : Option (Int32 × ow_MS) :=
 go 1 x1 x2 0 0 0 0 r0 0 0 0 z
def cm_X4_signChanges_1 (vl : Nat → Nat) (K : Nat) (go : Nat → Int32 → Int32 → Int32 → Int32 → Int64 → Int64 → Nat → Int32 → Int64 → Int64 → ow_MS → Option (Int32 × ow_MS)) (x1 : Int32) (x2 : Int32) (x3 : Int32) (x6 : Int32) (w4 : Int64) (w7 : Int64) (r0 : Nat) (t0 : Int32) (y0 : Int64) (y1 : Int64) (z : ow_MS) : Option (Int32 × ow_MS) :=
 (if x1 < x6 then some (x3, z)
 else crJ (cX vl) z (r0 + 8) x6 fun v1 => (if 0 ≤ x2 then go 2 x1 x2 x3 x6 w4 0 r0 0 v1 0 z
 else (if (x6 &&& 1) = 1 then go 3 x1 x2 x3 x6 w4 0 r0 (-1) 0 v1 z
 else go 2 x1 x2 x3 x6 w4 0 r0 0 v1 0 z)))
def cm_X4_signChanges_2 (vl : Nat → Nat) (K : Nat) (go : Nat → Int32 → Int32 → Int32 → Int32 → Int64 → Int64 → Nat → Int32 → Int64 → Int64 → ow_MS → Option (Int32 × ow_MS)) (x1 : Int32) (x2 : Int32) (x3 : Int32) (x6 : Int32) (w4 : Int64) (w7 : Int64) (r0 : Nat) (t0 : Int32) (y0 : Int64) (y1 : Int64) (z : ow_MS) : Option (Int32 × ow_MS) :=
 go 3 x1 x2 x3 x6 w4 0 r0 1 0 y0 z
def cm_X4_signChanges_3 (vl : Nat → Nat) (K : Nat) (go : Nat → Int32 → Int32 → Int32 → Int32 → Int64 → Int64 → Nat → Int32 → Int64 → Int64 → ow_MS → Option (Int32 × ow_MS)) (x1 : Int32) (x2 : Int32) (x3 : Int32) (x6 : Int32) (w4 : Int64) (w7 : Int64) (r0 : Nat) (t0 : Int32) (y0 : Int64) (y1 : Int64) (z : ow_MS) : Option (Int32 × ow_MS) :=
 (if (lg_cmp (y1 * t0.toInt64) 0) = 0 then go 7 x1 x2 x3 x6 w4 (y1 * t0.toInt64) r0 0 0 0 z
 else (if 0 ≤ (lg_cmp w4 0) then go 4 x1 x2 x3 x6 w4 (y1 * t0.toInt64) r0 0 0 0 z
 else (if 0 < (lg_cmp (y1 * t0.toInt64) 0) then go 5 x1 x2 x3 x6 w4 (y1 * t0.toInt64) r0 0 0 0 z
 else go 4 x1 x2 x3 x6 w4 (y1 * t0.toInt64) r0 0 0 0 z)))
def cm_X4_signChanges_4 (vl : Nat → Nat) (K : Nat) (go : Nat → Int32 → Int32 → Int32 → Int32 → Int64 → Int64 → Nat → Int32 → Int64 → Int64 → ow_MS → Option (Int32 × ow_MS)) (x1 : Int32) (x2 : Int32) (x3 : Int32) (x6 : Int32) (w4 : Int64) (w7 : Int64) (r0 : Nat) (t0 : Int32) (y0 : Int64) (y1 : Int64) (z : ow_MS) : Option (Int32 × ow_MS) :=
 (if (lg_cmp w4 0) ≤ 0 then go 6 x1 x2 x3 x6 w4 w7 r0 0 0 0 z
 else (if 0 ≤ (lg_cmp w7 0) then go 6 x1 x2 x3 x6 w4 w7 r0 0 0 0 z
 else go 5 x1 x2 x3 x6 w4 w7 r0 0 0 0 z))
def cm_X4_signChanges_5 (vl : Nat → Nat) (K : Nat) (go : Nat → Int32 → Int32 → Int32 → Int32 → Int64 → Int64 → Nat → Int32 → Int64 → Int64 → ow_MS → Option (Int32 × ow_MS)) (x1 : Int32) (x2 : Int32) (x3 : Int32) (x6 : Int32) (w4 : Int64) (w7 : Int64) (r0 : Nat) (t0 : Int32) (y0 : Int64) (y1 : Int64) (z : ow_MS) : Option (Int32 × ow_MS) :=
 go 6 x1 x2 (x3 + 1) x6 w4 w7 r0 0 0 0 z
def cm_X4_signChanges_6 (vl : Nat → Nat) (K : Nat) (go : Nat → Int32 → Int32 → Int32 → Int32 → Int64 → Int64 → Nat → Int32 → Int64 → Int64 → ow_MS → Option (Int32 × ow_MS)) (x1 : Int32) (x2 : Int32) (x3 : Int32) (x6 : Int32) (w4 : Int64) (w7 : Int64) (r0 : Nat) (t0 : Int32) (y0 : Int64) (y1 : Int64) (z : ow_MS) : Option (Int32 × ow_MS) :=
 go 7 x1 x2 x3 x6 w7 w7 r0 0 0 0 z
def cm_X4_signChanges_7 (vl : Nat → Nat) (K : Nat) (go : Nat → Int32 → Int32 → Int32 → Int32 → Int64 → Int64 → Nat → Int32 → Int64 → Int64 → ow_MS → Option (Int32 × ow_MS)) (x1 : Int32) (x2 : Int32) (x3 : Int32) (x6 : Int32) (w4 : Int64) (w7 : Int64) (r0 : Nat) (t0 : Int32) (y0 : Int64) (y1 : Int64) (z : ow_MS) : Option (Int32 × ow_MS) :=
 go 1 x1 x2 x3 (x6 + 1) w4 0 r0 0 0 0 z
def cb_X4_signChanges (vl : Nat → Nat) (K : Nat) (go : Nat → Int32 → Int32 → Int32 → Int32 → Int64 → Int64 → Nat → Int32 → Int64 → Int64 → ow_MS → Option (Int32 × ow_MS)) (L : Nat) (x1 : Int32) (x2 : Int32) (x3 : Int32) (x6 : Int32) (w4 : Int64) (w7 : Int64) (r0 : Nat) (t0 : Int32) (y0 : Int64) (y1 : Int64) (z : ow_MS) : Option (Int32 × ow_MS) := match L with
  | 0 => cm_X4_signChanges_0 vl K go x1 x2 x3 x6 w4 w7 r0 t0 y0 y1 z
  | 1 => cm_X4_signChanges_1 vl K go x1 x2 x3 x6 w4 w7 r0 t0 y0 y1 z
  | 2 => cm_X4_signChanges_2 vl K go x1 x2 x3 x6 w4 w7 r0 t0 y0 y1 z
  | 3 => cm_X4_signChanges_3 vl K go x1 x2 x3 x6 w4 w7 r0 t0 y0 y1 z
  | 4 => cm_X4_signChanges_4 vl K go x1 x2 x3 x6 w4 w7 r0 t0 y0 y1 z
  | 5 => cm_X4_signChanges_5 vl K go x1 x2 x3 x6 w4 w7 r0 t0 y0 y1 z
  | 6 => cm_X4_signChanges_6 vl K go x1 x2 x3 x6 w4 w7 r0 t0 y0 y1 z
  | 7 => cm_X4_signChanges_7 vl K go x1 x2 x3 x6 w4 w7 r0 t0 y0 y1 z
  | _ => none
def c_X4_signChanges (vl : Nat → Nat) (K : Nat) : Nat → Nat → Int32 → Int32 → Int32 → Int32 → Int64 → Int64 → Nat → Int32 → Int64 → Int64 → ow_MS → Option (Int32 × ow_MS)
  | 0 => fun _ _ _ _ _ _ _ _ _ _ _ _ => none
  | k + 1 => cb_X4_signChanges vl K (c_X4_signChanges vl K k)
def ce_X4_signChanges (vl : Nat → Nat) (K : Nat) (r0 : Nat) (x1 : Int32) (x2 : Int32) (z : ow_MS) : Option (Int32 × ow_MS) := c_X4_signChanges vl K K 0 x1 x2 0 0 0 0 r0 0 0 0 z
abbrev wc_X4_signChanges : List Cond := .code yX4_signChanges cX4_signChanges 9 (some .int) :: wC
theorem cdd_X4_signChanges : yX4_signChanges.cls = RX4 ∧ yX4_signChanges.cls ≠ "java/lang/invoke/MethodHandle" ∧ yX4_signChanges.cls ≠ "java/lang/invoke/VarHandle" ∧ (parseMethodDescriptor yX4_signChanges.desc).map (fun d => d.parameters.length) = some 2 := by decide +kernel
set_option maxHeartbeats 4000000 in
set_option maxRecDepth 100000 in
theorem kc_X4_signChanges (l : Launch) (D : va_G) (q : Nat → ClassId) (vl u : Nat → Nat) (hU0 : tw_inj (cX vl) u) (K : Nat) (r0 : Nat) (x1 : Int32) (x2 : Int32) (hr0 : cw_X4 r0) (z z1 : ow_MS) (r : Int32) (hq : ce_X4_signChanges vl K r0 x1 x2 z = some (r, z1)) : Met l yX4_signChanges wc_X4_signChanges ({ frames := 0, cells := 0, slots := 0, locals := 0 } : Room) (va_Pc [.ref (u r0), .int x1, .int x2] (cw_pre D q vl u z)) (va_Qi (fun x (_ : Unit) => x = r) (fun _ t => va_P D vwCl (uw (cX vl) q u z1) t.heap) (tw_A (cX vl) u)) 0 0 (tw_A (cX vl) u) := by
  refine Met.ofW (cc := cX4_signChanges) (maxL := 9) (ret := (some .int)) (by decide) rfl ?_
  intro p e s m args below meth c s₁ B hml hv
  obtain ⟨rfl, hP, hK⟩ := hv
  have hx := B.exec
  have hb := B.bytes
  have hr := B.returns
  have hts := atoms_spec (ws := wc_X4_signChanges) B.pre
  have hT : ∀ w ∈ wC, w.before ([.ref (u r0), .int x1, .int x2] : List Value).toArray s = true := fun w h => hts w (List.mem_cons_of_mem _ h)
  have hown : s.vm.findClass RX4 = some m.cls := findClass_of_methodNamed B.named
  have hlocks := B.notSynchronized
  have hU : uw_inj (cX vl) u (tw_A (cX vl) u) := ⟨hU0, fun h hh => ⟨h, hh, rfl⟩⟩
  have hM : uw_M D vwCl (cX vl) q (tw_A (cX vl) u) s.heap u z s.heap [] := ⟨hP, va_S.rf⟩
  have hl := lv_entry ([.ref (u r0), .int x1, .int x2]) (n := 9) (Nat.le_of_ble_eq_true rfl)
  rw [lg_entry_eq]
  generalize (lg_sl ([.ref (u r0), .int x1, .int x2]) ++ List.replicate (9 - (lg_sl ([.ref (u r0), .int x1, .int x2])).length) Slot.unset).toArray = ls at hl ⊢
  have hl : lv_has ls 9 [(0, .ref (u r0)), (1, .int x1), (2, .int x2)] := hl
  refine ow_named (fun QQ hQQ => ?_)
  generalize ([.ref (u r0), .int x1, .int x2] : List Value).toArray = args at hts hT hQQ ⊢
  have key : ∀ k : Nat, (∀ (x1 : Int32) (x2 : Int32) (x3 : Int32) (x6 : Int32) (w4 : Int64) (w7 : Int64) (r0 : Nat) (t0 : Int32) (y0 : Int64) (y1 : Int64) (z : ow_MS) (H : Heap) (locs : List Loc) (ls : Array Slot), cw_X4 r0 → uw_M D vwCl (cX vl) q (tw_A (cX vl) u) s.heap u z H locs → lv_has ls 9 [(0, .ref (u r0)), (1, .int x1), (2, .int x2)] → c_X4_signChanges vl K k 0 x1 x2 x3 x6 w4 w7 r0 t0 y0 y1 z = some (r, z1) → W p l e ({ frames := 0, cells := 0, slots := 0, locals := 0 } : Room) s m args below meth c H locs 0 0 QQ (F0 m 0 ls [])) ∧ (∀ (x1 : Int32) (x2 : Int32) (x3 : Int32) (x6 : Int32) (w4 : Int64) (w7 : Int64) (r0 : Nat) (t0 : Int32) (y0 : Int64) (y1 : Int64) (z : ow_MS) (H : Heap) (locs : List Loc) (ls : Array Slot), cw_X4 r0 → uw_M D vwCl (cX vl) q (tw_A (cX vl) u) s.heap u z H locs → lv_has ls 9 [(0, .ref (u r0)), (1, .int x1), (2, .int x2), (3, .int x3), (4, .long w4), (6, .int x6)] → c_X4_signChanges vl K k 1 x1 x2 x3 x6 w4 w7 r0 t0 y0 y1 z = some (r, z1) → W p l e ({ frames := 0, cells := 0, slots := 0, locals := 0 } : Room) s m args below meth c H locs 0 0 QQ (F0 m 8 ls [])) ∧ (∀ (x1 : Int32) (x2 : Int32) (x3 : Int32) (x6 : Int32) (w4 : Int64) (w7 : Int64) (r0 : Nat) (t0 : Int32) (y0 : Int64) (y1 : Int64) (z : ow_MS) (H : Heap) (locs : List Loc) (ls : Array Slot), cw_X4 r0 → uw_M D vwCl (cX vl) q (tw_A (cX vl) u) s.heap u z H locs → lv_has ls 9 [(0, .ref (u r0)), (1, .int x1), (2, .int x2), (3, .int x3), (4, .long w4), (6, .int x6)] → c_X4_signChanges vl K k 2 x1 x2 x3 x6 w4 w7 r0 t0 y0 y1 z = some (r, z1) → W p l e ({ frames := 0, cells := 0, slots := 0, locals := 0 } : Room) s m args below meth c H locs 0 0 QQ (F0 m 37 ls [.long y0])) ∧ (∀ (x1 : Int32) (x2 : Int32) (x3 : Int32) (x6 : Int32) (w4 : Int64) (w7 : Int64) (r0 : Nat) (t0 : Int32) (y0 : Int64) (y1 : Int64) (z : ow_MS) (H : Heap) (locs : List Loc) (ls : Array Slot), cw_X4 r0 → uw_M D vwCl (cX vl) q (tw_A (cX vl) u) s.heap u z H locs → lv_has ls 9 [(0, .ref (u r0)), (1, .int x1), (2, .int x2), (3, .int x3), (4, .long w4), (6, .int x6)] → c_X4_signChanges vl K k 3 x1 x2 x3 x6 w4 w7 r0 t0 y0 y1 z = some (r, z1) → W p l e ({ frames := 0, cells := 0, slots := 0, locals := 0 } : Room) s m args below meth c H locs 0 0 QQ (F0 m 38 ls [.int t0, .long y1])) ∧ (∀ (x1 : Int32) (x2 : Int32) (x3 : Int32) (x6 : Int32) (w4 : Int64) (w7 : Int64) (r0 : Nat) (t0 : Int32) (y0 : Int64) (y1 : Int64) (z : ow_MS) (H : Heap) (locs : List Loc) (ls : Array Slot), cw_X4 r0 → uw_M D vwCl (cX vl) q (tw_A (cX vl) u) s.heap u z H locs → lv_has ls 9 [(0, .ref (u r0)), (1, .int x1), (2, .int x2), (3, .int x3), (4, .long w4), (6, .int x6), (7, .long w7)] → c_X4_signChanges vl K k 4 x1 x2 x3 x6 w4 w7 r0 t0 y0 y1 z = some (r, z1) → W p l e ({ frames := 0, cells := 0, slots := 0, locals := 0 } : Room) s m args below meth c H locs 0 0 QQ (F0 m 63 ls [])) ∧ (∀ (x1 : Int32) (x2 : Int32) (x3 : Int32) (x6 : Int32) (w4 : Int64) (w7 : Int64) (r0 : Nat) (t0 : Int32) (y0 : Int64) (y1 : Int64) (z : ow_MS) (H : Heap) (locs : List Loc) (ls : Array Slot), cw_X4 r0 → uw_M D vwCl (cX vl) q (tw_A (cX vl) u) s.heap u z H locs → lv_has ls 9 [(0, .ref (u r0)), (1, .int x1), (2, .int x2), (3, .int x3), (4, .long w4), (6, .int x6), (7, .long w7)] → c_X4_signChanges vl K k 5 x1 x2 x3 x6 w4 w7 r0 t0 y0 y1 z = some (r, z1) → W p l e ({ frames := 0, cells := 0, slots := 0, locals := 0 } : Room) s m args below meth c H locs 0 0 QQ (F0 m 77 ls [])) ∧ (∀ (x1 : Int32) (x2 : Int32) (x3 : Int32) (x6 : Int32) (w4 : Int64) (w7 : Int64) (r0 : Nat) (t0 : Int32) (y0 : Int64) (y1 : Int64) (z : ow_MS) (H : Heap) (locs : List Loc) (ls : Array Slot), cw_X4 r0 → uw_M D vwCl (cX vl) q (tw_A (cX vl) u) s.heap u z H locs → lv_has ls 9 [(0, .ref (u r0)), (1, .int x1), (2, .int x2), (3, .int x3), (4, .long w4), (6, .int x6), (7, .long w7)] → c_X4_signChanges vl K k 6 x1 x2 x3 x6 w4 w7 r0 t0 y0 y1 z = some (r, z1) → W p l e ({ frames := 0, cells := 0, slots := 0, locals := 0 } : Room) s m args below meth c H locs 0 0 QQ (F0 m 80 ls [])) ∧ (∀ (x1 : Int32) (x2 : Int32) (x3 : Int32) (x6 : Int32) (w4 : Int64) (w7 : Int64) (r0 : Nat) (t0 : Int32) (y0 : Int64) (y1 : Int64) (z : ow_MS) (H : Heap) (locs : List Loc) (ls : Array Slot), cw_X4 r0 → uw_M D vwCl (cX vl) q (tw_A (cX vl) u) s.heap u z H locs → lv_has ls 9 [(0, .ref (u r0)), (1, .int x1), (2, .int x2), (3, .int x3), (4, .long w4), (6, .int x6), (7, .long w7)] → c_X4_signChanges vl K k 7 x1 x2 x3 x6 w4 w7 r0 t0 y0 y1 z = some (r, z1) → W p l e ({ frames := 0, cells := 0, slots := 0, locals := 0 } : Room) s m args below meth c H locs 0 0 QQ (F0 m 84 ls [])) := by
    intro k
    induction k with
    | zero => exact ⟨fun _ _ _ _ _ _ _ _ _ _ _ _ _ _ _ _ _ hq => cw_no hq, fun _ _ _ _ _ _ _ _ _ _ _ _ _ _ _ _ _ hq => cw_no hq, fun _ _ _ _ _ _ _ _ _ _ _ _ _ _ _ _ _ hq => cw_no hq, fun _ _ _ _ _ _ _ _ _ _ _ _ _ _ _ _ _ hq => cw_no hq, fun _ _ _ _ _ _ _ _ _ _ _ _ _ _ _ _ _ hq => cw_no hq, fun _ _ _ _ _ _ _ _ _ _ _ _ _ _ _ _ _ hq => cw_no hq, fun _ _ _ _ _ _ _ _ _ _ _ _ _ _ _ _ _ hq => cw_no hq, fun _ _ _ _ _ _ _ _ _ _ _ _ _ _ _ _ _ hq => cw_no hq⟩
    | succ k ih =>
      obtain ⟨ih_0, ih_1, ih_2, ih_3, ih_4, ih_5, ih_6, ih_7⟩ := ih
      refine ⟨?_, ?_, ?_, ?_, ?_, ?_, ?_, ?_⟩
      · intro x1 x2 x3 x6 w4 w7 r0 t0 y0 y1 z H locs ls hr0 hM hl hq
        have hq : cm_X4_signChanges_0 vl K (c_X4_signChanges vl K k) x1 x2 x3 x6 w4 w7 r0 t0 y0 y1 z = some (r, z1) := hq
        unfold cm_X4_signChanges_0 at hq
        refine lv_iconst (v := 0) hx hb dcX4_signChanges_0 (by decide) ?_
        refine lv_istore_n (lv' := [(3, .int 0), (0, .ref (u r0)), (1, .int x1), (2, .int x2)]) hx hb dcX4_signChanges_1 rfl hl (by decide) rfl (fun ls hl => ?_)
        refine lv_lconst (v := 0) hx hb dcX4_signChanges_2 rfl ?_
        refine lv_lstore (lv' := [(4, .long 0), (3, .int 0), (0, .ref (u r0)), (1, .int x1), (2, .int x2)]) hx hb dcX4_signChanges_3 hl (by decide) rfl (fun ls hl => ?_)
        refine lv_iconst (v := 0) hx hb dcX4_signChanges_5 (by decide) ?_
        refine lv_istore (lv' := [(6, .int 0), (4, .long 0), (3, .int 0), (0, .ref (u r0)), (1, .int x1), (2, .int x2)]) hx hb dcX4_signChanges_6 hl (by decide) rfl (fun ls hl => ?_)
        exact ih_1 x1 x2 0 0 0 0 r0 0 0 0 z H locs ls hr0 hM (lv_sub hl [3, 4, 5, 2, 1, 0] rfl) hq
      · intro x1 x2 x3 x6 w4 w7 r0 t0 y0 y1 z H locs ls hr0 hM hl hq
        have hq : cm_X4_signChanges_1 vl K (c_X4_signChanges vl K k) x1 x2 x3 x6 w4 w7 r0 t0 y0 y1 z = some (r, z1) := hq
        unfold cm_X4_signChanges_1 at hq
        refine lv_iload hx hb dcX4_signChanges_8 (lv_at hl 5 rfl) ?_
        refine lv_iload_n hx hb dcX4_signChanges_10 rfl (lv_at hl 1 rfl) ?_
        refine lv_icmp_gt (tgt := 90) hx hb dcX4_signChanges_11 (by decide) (fun hc => ?_) (fun hc => ?_)
        · have hq := tw_it hq hc
          refine lv_iload_n hx hb dcX4_signChanges_90 rfl (lv_at hl 3 rfl) ?_
          exact cw_iret hx hb hr hlocks hM hq hQQ dcX4_signChanges_91
        · have hq := tw_if hq hc
          refine lv_aload_n hx hb dcX4_signChanges_14 rfl (lv_at hl 0 rfl) ?_
          refine vgX4_31 hx hb hT hown hK hM hr0 dcX4_signChanges_15 ?_
          refine lv_iload hx hb dcX4_signChanges_18 (lv_at hl 5 rfl) ?_
          refine uw_lald cX_ok hx hb hK hM (cr_X4_7 hr0) hq dcX4_signChanges_20 (fun v1 hq => ?_)
          refine lv_iload_n hx hb dcX4_signChanges_21 rfl (lv_at hl 2 rfl) ?_
          refine lv_if_ge (tgt := 37) hx hb dcX4_signChanges_22 (by decide) (fun hc => ?_) (fun hc => ?_)
          · have hq := tw_it hq hc
            exact ih_2 x1 x2 x3 x6 w4 0 r0 0 v1 0 z H locs ls hr0 hM (lv_sub hl [0, 1, 2, 3, 4, 5] rfl) hq
          · have hq := tw_if hq hc
            refine lv_iload hx hb dcX4_signChanges_25 (lv_at hl 5 rfl) ?_
            refine lv_iconst (v := 1) hx hb dcX4_signChanges_27 (by decide) ?_
            refine lv_iand hx hb dcX4_signChanges_28 ?_
            refine lv_iconst (v := 1) hx hb dcX4_signChanges_29 (by decide) ?_
            refine lv_icmp_ne (tgt := 37) hx hb dcX4_signChanges_30 (by decide) (fun hc => ?_) (fun hc => ?_)
            · have hq := tw_if hq hc
              exact ih_2 x1 x2 x3 x6 w4 0 r0 0 v1 0 z H locs ls hr0 hM (lv_sub hl [0, 1, 2, 3, 4, 5] rfl) hq
            · have hq := tw_it hq hc
              refine lv_iconst (v := (-1)) hx hb dcX4_signChanges_33 (by decide) ?_
              refine lv_goto (tgt := 38) hx hb dcX4_signChanges_34 (by decide) ?_
              exact ih_3 x1 x2 x3 x6 w4 0 r0 (-1) 0 v1 z H locs ls hr0 hM (lv_sub hl [0, 1, 2, 3, 4, 5] rfl) hq
      · intro x1 x2 x3 x6 w4 w7 r0 t0 y0 y1 z H locs ls hr0 hM hl hq
        have hq : cm_X4_signChanges_2 vl K (c_X4_signChanges vl K k) x1 x2 x3 x6 w4 w7 r0 t0 y0 y1 z = some (r, z1) := hq
        unfold cm_X4_signChanges_2 at hq
        refine lv_iconst (v := 1) hx hb dcX4_signChanges_37 (by decide) ?_
        exact ih_3 x1 x2 x3 x6 w4 0 r0 1 0 y0 z H locs ls hr0 hM (lv_sub hl [0, 1, 2, 3, 4, 5] rfl) hq
      · intro x1 x2 x3 x6 w4 w7 r0 t0 y0 y1 z H locs ls hr0 hM hl hq
        have hq : cm_X4_signChanges_3 vl K (c_X4_signChanges vl K k) x1 x2 x3 x6 w4 w7 r0 t0 y0 y1 z = some (r, z1) := hq
        unfold cm_X4_signChanges_3 at hq
        refine lv_i2l hx hb dcX4_signChanges_38 rfl ?_
        refine lv_lmul hx hb dcX4_signChanges_39 ?_
        refine lv_lstore (lv' := [(7, .long (y1 * t0.toInt64)), (0, .ref (u r0)), (1, .int x1), (2, .int x2), (3, .int x3), (4, .long w4), (6, .int x6)]) hx hb dcX4_signChanges_40 hl (by decide) rfl (fun ls hl => ?_)
        refine lv_lload hx hb dcX4_signChanges_42 (lv_at hl 0 rfl) ?_
        refine lv_lconst (v := 0) hx hb dcX4_signChanges_44 rfl ?_
        refine W.lcmp hx hb dcX4_signChanges_45 ?_
        refine lv_if_eq (tgt := 84) hx hb dcX4_signChanges_46 (by decide) (fun hc => ?_) (fun hc => ?_)
        · have hq := tw_it hq hc
          exact ih_7 x1 x2 x3 x6 w4 (y1 * t0.toInt64) r0 0 0 0 z H locs ls hr0 hM (lv_sub hl [1, 2, 3, 4, 5, 6, 0] rfl) hq
        · have hq := tw_if hq hc
          refine lv_lload hx hb dcX4_signChanges_49 (lv_at hl 5 rfl) ?_
          refine lv_lconst (v := 0) hx hb dcX4_signChanges_51 rfl ?_
          refine W.lcmp hx hb dcX4_signChanges_52 ?_
          refine lv_if_ge (tgt := 63) hx hb dcX4_signChanges_53 (by decide) (fun hc => ?_) (fun hc => ?_)
          · have hq := tw_it hq hc
            exact ih_4 x1 x2 x3 x6 w4 (y1 * t0.toInt64) r0 0 0 0 z H locs ls hr0 hM (lv_sub hl [1, 2, 3, 4, 5, 6, 0] rfl) hq
          · have hq := tw_if hq hc
            refine lv_lload hx hb dcX4_signChanges_56 (lv_at hl 0 rfl) ?_
            refine lv_lconst (v := 0) hx hb dcX4_signChanges_58 rfl ?_
            refine W.lcmp hx hb dcX4_signChanges_59 ?_
            refine lv_if_gt (tgt := 77) hx hb dcX4_signChanges_60 (by decide) (fun hc => ?_) (fun hc => ?_)
            · have hq := tw_it hq hc
              exact ih_5 x1 x2 x3 x6 w4 (y1 * t0.toInt64) r0 0 0 0 z H locs ls hr0 hM (lv_sub hl [1, 2, 3, 4, 5, 6, 0] rfl) hq
            · have hq := tw_if hq hc
              exact ih_4 x1 x2 x3 x6 w4 (y1 * t0.toInt64) r0 0 0 0 z H locs ls hr0 hM (lv_sub hl [1, 2, 3, 4, 5, 6, 0] rfl) hq
      · intro x1 x2 x3 x6 w4 w7 r0 t0 y0 y1 z H locs ls hr0 hM hl hq
        have hq : cm_X4_signChanges_4 vl K (c_X4_signChanges vl K k) x1 x2 x3 x6 w4 w7 r0 t0 y0 y1 z = some (r, z1) := hq
        unfold cm_X4_signChanges_4 at hq
        refine lv_lload hx hb dcX4_signChanges_63 (lv_at hl 4 rfl) ?_
        refine lv_lconst (v := 0) hx hb dcX4_signChanges_65 rfl ?_
        refine W.lcmp hx hb dcX4_signChanges_66 ?_
        refine lv_if_le (tgt := 80) hx hb dcX4_signChanges_67 (by decide) (fun hc => ?_) (fun hc => ?_)
        · have hq := tw_it hq hc
          exact ih_6 x1 x2 x3 x6 w4 w7 r0 0 0 0 z H locs ls hr0 hM (lv_sub hl [0, 1, 2, 3, 4, 5, 6] rfl) hq
        · have hq := tw_if hq hc
          refine lv_lload hx hb dcX4_signChanges_70 (lv_at hl 6 rfl) ?_
          refine lv_lconst (v := 0) hx hb dcX4_signChanges_72 rfl ?_
          refine W.lcmp hx hb dcX4_signChanges_73 ?_
          refine lv_if_ge (tgt := 80) hx hb dcX4_signChanges_74 (by decide) (fun hc => ?_) (fun hc => ?_)
          · have hq := tw_it hq hc
            exact ih_6 x1 x2 x3 x6 w4 w7 r0 0 0 0 z H locs ls hr0 hM (lv_sub hl [0, 1, 2, 3, 4, 5, 6] rfl) hq
          · have hq := tw_if hq hc
            exact ih_5 x1 x2 x3 x6 w4 w7 r0 0 0 0 z H locs ls hr0 hM (lv_sub hl [0, 1, 2, 3, 4, 5, 6] rfl) hq
      · intro x1 x2 x3 x6 w4 w7 r0 t0 y0 y1 z H locs ls hr0 hM hl hq
        have hq : cm_X4_signChanges_5 vl K (c_X4_signChanges vl K k) x1 x2 x3 x6 w4 w7 r0 t0 y0 y1 z = some (r, z1) := hq
        unfold cm_X4_signChanges_5 at hq
        refine lv_iinc (v := (x3 + 1)) (lv' := [(3, .int (x3 + 1)), (0, .ref (u r0)), (1, .int x1), (2, .int x2), (4, .long w4), (6, .int x6), (7, .long w7)]) hx hb dcX4_signChanges_77 hl (k := 3) rfl rfl (by decide) rfl (fun ls hl => ?_)
        exact ih_6 x1 x2 (x3 + 1) x6 w4 w7 r0 0 0 0 z H locs ls hr0 hM (lv_sub hl [1, 2, 3, 0, 4, 5, 6] rfl) hq
      · intro x1 x2 x3 x6 w4 w7 r0 t0 y0 y1 z H locs ls hr0 hM hl hq
        have hq : cm_X4_signChanges_6 vl K (c_X4_signChanges vl K k) x1 x2 x3 x6 w4 w7 r0 t0 y0 y1 z = some (r, z1) := hq
        unfold cm_X4_signChanges_6 at hq
        refine lv_lload hx hb dcX4_signChanges_80 (lv_at hl 6 rfl) ?_
        refine lv_lstore (lv' := [(4, .long w7), (0, .ref (u r0)), (1, .int x1), (2, .int x2), (3, .int x3), (6, .int x6), (7, .long w7)]) hx hb dcX4_signChanges_82 hl (by decide) rfl (fun ls hl => ?_)
        exact ih_7 x1 x2 x3 x6 w7 w7 r0 0 0 0 z H locs ls hr0 hM (lv_sub hl [1, 2, 3, 4, 0, 5, 6] rfl) hq
      · intro x1 x2 x3 x6 w4 w7 r0 t0 y0 y1 z H locs ls hr0 hM hl hq
        have hq : cm_X4_signChanges_7 vl K (c_X4_signChanges vl K k) x1 x2 x3 x6 w4 w7 r0 t0 y0 y1 z = some (r, z1) := hq
        unfold cm_X4_signChanges_7 at hq
        refine lv_iinc (v := (x6 + 1)) (lv' := [(6, .int (x6 + 1)), (0, .ref (u r0)), (1, .int x1), (2, .int x2), (3, .int x3), (4, .long w4), (7, .long w7)]) hx hb dcX4_signChanges_84 hl (k := 5) rfl rfl (by decide) rfl (fun ls hl => ?_)
        refine lv_goto (tgt := 8) hx hb dcX4_signChanges_87 (by decide) ?_
        exact ih_1 x1 x2 x3 (x6 + 1) w4 0 r0 0 0 0 z H locs ls hr0 hM (lv_sub hl [1, 2, 3, 4, 5, 0] rfl) hq
  exact (key K).1 x1 x2 0 0 0 0 r0 0 0 0 z s.heap [] ls hr0 hM (lv_sub hl [0, 1, 2] rfl) hq
theorem dcX4_eigenvalueSigns_0 : decode cX4_eigenvalueSigns 0 = .ok (.aload_n 0, 1) := by decide +kernel
theorem dcX4_eigenvalueSigns_1 : decode cX4_eigenvalueSigns 1 = .ok (.iload_n 1, 1) := by decide +kernel
theorem dcX4_eigenvalueSigns_2 : decode cX4_eigenvalueSigns 2 = .ok (.invokevirtual 100, 3) := by decide +kernel
theorem dcX4_eigenvalueSigns_5 : decode cX4_eigenvalueSigns 5 = .ok (.aload_n 0, 1) := by decide +kernel
theorem dcX4_eigenvalueSigns_6 : decode cX4_eigenvalueSigns 6 = .ok (.iload_n 1, 1) := by decide +kernel
theorem dcX4_eigenvalueSigns_7 : decode cX4_eigenvalueSigns 7 = .ok (.iconst 1, 1) := by decide +kernel
theorem dcX4_eigenvalueSigns_8 : decode cX4_eigenvalueSigns 8 = .ok (.invokevirtual 104, 3) := by decide +kernel
theorem dcX4_eigenvalueSigns_11 : decode cX4_eigenvalueSigns 11 = .ok (.aload_n 0, 1) := by decide +kernel
theorem dcX4_eigenvalueSigns_12 : decode cX4_eigenvalueSigns 12 = .ok (.iload_n 1, 1) := by decide +kernel
theorem dcX4_eigenvalueSigns_13 : decode cX4_eigenvalueSigns 13 = .ok (.iconst (-1), 1) := by decide +kernel
theorem dcX4_eigenvalueSigns_14 : decode cX4_eigenvalueSigns 14 = .ok (.invokevirtual 104, 3) := by decide +kernel
theorem dcX4_eigenvalueSigns_17 : decode cX4_eigenvalueSigns 17 = .ok (.isub, 1) := by decide +kernel
theorem dcX4_eigenvalueSigns_18 : decode cX4_eigenvalueSigns 18 = .ok (.ireturn, 1) := by decide +kernel
def cm_X4_eigenvalueSigns_0 (vl : Nat → Nat) (K : Nat) (x1 : Int32) (r0 : Nat) (z : ow_MS) : Option (Int32 × ow_MS) :=
 cs0 (ce_X4_findCharacteristic vl K r0 x1 z) fun z1 => cs1 (ce_X4_signChanges vl K r0 x1 1 z1) fun v3 z2 => cs1 (ce_X4_signChanges vl K r0 x1 (-1) z2) fun v5 z4 => some ((v3 - v5), z4)
def ce_X4_eigenvalueSigns (vl : Nat → Nat) (K : Nat) (r0 : Nat) (x1 : Int32) (z : ow_MS) : Option (Int32 × ow_MS) := cm_X4_eigenvalueSigns_0 vl K x1 r0 z
abbrev wc_X4_eigenvalueSigns : List Cond := .code yX4_eigenvalueSigns cX4_eigenvalueSigns 2 (some .int) :: wC
theorem cdd_X4_eigenvalueSigns : yX4_eigenvalueSigns.cls = RX4 ∧ yX4_eigenvalueSigns.cls ≠ "java/lang/invoke/MethodHandle" ∧ yX4_eigenvalueSigns.cls ≠ "java/lang/invoke/VarHandle" ∧ (parseMethodDescriptor yX4_eigenvalueSigns.desc).map (fun d => d.parameters.length) = some 1 := by decide +kernel
set_option maxHeartbeats 4000000 in
set_option maxRecDepth 100000 in
theorem kc_X4_eigenvalueSigns (l : Launch) (D : va_G) (q : Nat → ClassId) (vl u : Nat → Nat) (hU0 : tw_inj (cX vl) u) (K : Nat) (r0 : Nat) (x1 : Int32) (hr0 : cw_X4 r0) (z z1 : ow_MS) (r : Int32) (hq : ce_X4_eigenvalueSigns vl K r0 x1 z = some (r, z1)) : Met l yX4_eigenvalueSigns wc_X4_eigenvalueSigns ({ frames := 2, cells := 0, slots := 0, locals := 89 } : Room) (va_Pc [.ref (u r0), .int x1] (cw_pre D q vl u z)) (va_Qi (fun x (_ : Unit) => x = r) (fun _ t => va_P D vwCl (uw (cX vl) q u z1) t.heap) (tw_A (cX vl) u)) 0 0 (tw_A (cX vl) u) := by
  refine Met.ofW (cc := cX4_eigenvalueSigns) (maxL := 2) (ret := (some .int)) (by decide) rfl ?_
  intro p e s m args below meth c s₁ B hml hv
  obtain ⟨rfl, hP, hK⟩ := hv
  have hx := B.exec
  have hb := B.bytes
  have hr := B.returns
  have hts := atoms_spec (ws := wc_X4_eigenvalueSigns) B.pre
  have hT : ∀ w ∈ wC, w.before ([.ref (u r0), .int x1] : List Value).toArray s = true := fun w h => hts w (List.mem_cons_of_mem _ h)
  have hown : s.vm.findClass RX4 = some m.cls := findClass_of_methodNamed B.named
  have hlocks := B.notSynchronized
  have hU : uw_inj (cX vl) u (tw_A (cX vl) u) := ⟨hU0, fun h hh => ⟨h, hh, rfl⟩⟩
  have hM : uw_M D vwCl (cX vl) q (tw_A (cX vl) u) s.heap u z s.heap [] := ⟨hP, va_S.rf⟩
  have hl := lv_entry ([.ref (u r0), .int x1]) (n := 2) (Nat.le_of_ble_eq_true rfl)
  rw [lg_entry_eq]
  generalize (lg_sl ([.ref (u r0), .int x1]) ++ List.replicate (2 - (lg_sl ([.ref (u r0), .int x1])).length) Slot.unset).toArray = ls at hl ⊢
  have hl : lv_has ls 2 [(0, .ref (u r0)), (1, .int x1)] := hl
  refine ow_named (fun QQ hQQ => ?_)
  generalize ([.ref (u r0), .int x1] : List Value).toArray = args at hts hT hQQ ⊢
  have hq : cm_X4_eigenvalueSigns_0 vl K x1 r0 z = some (r, z1) := hq
  unfold cm_X4_eigenvalueSigns_0 at hq
  suffices key : ∀ (H : Heap) (locs : List Loc), uw_M D vwCl (cX vl) q (tw_A (cX vl) u) s.heap u z H locs → W p l e ({ frames := 2, cells := 0, slots := 0, locals := 89 } : Room) s m args below meth c H locs 0 0 QQ (F0 m 0 ls []) from key s.heap [] hM
  intro H locs hM
  refine lv_aload_n hx hb dcX4_eigenvalueSigns_0 rfl (lv_at hl 0 rfl) ?_
  refine lv_iload_n hx hb dcX4_eigenvalueSigns_1 rfl (lv_at hl 1 rfl) ?_
  obtain ⟨z1, hcq, hq⟩ := tw_cl0 hq
  refine uw_calv hU hM (va_runV (As := [.int x1]) (rest := []) ⟨hx, hb, hml, hown, hts⟩ (kc_X4_findCharacteristic l D q vl u hU.1 K r0 x1 hr0 z z1 hcq) (cwV 1 hts (tw_gV wC_good xq_387 xq_388 xq_389 xq_350 xq_390) rfl rfl rfl cdd_X4_findCharacteristic ⟨(Nat.le_of_ble_eq_true rfl), (Nat.le_of_ble_eq_true rfl)⟩) (cw_preV hK hM (co_X4 hr0) rfl) rfl rfl hl.1 rfl (lv_room (Nat.le_of_ble_eq_true rfl)) dcX4_eigenvalueSigns_2 ⟨(Nat.le_of_ble_eq_true rfl), (Nat.le_of_ble_eq_true rfl)⟩) (fun H locs hM => ?_)
  refine lv_aload_n hx hb dcX4_eigenvalueSigns_5 rfl (lv_at hl 0 rfl) ?_
  refine lv_iload_n hx hb dcX4_eigenvalueSigns_6 rfl (lv_at hl 1 rfl) ?_
  refine lv_iconst (v := 1) hx hb dcX4_eigenvalueSigns_7 (by decide) ?_
  obtain ⟨v3, z2, hcq, hq⟩ := tw_cl1 hq
  refine uw_cali hU hM (va_runV (As := [.int x1, .int 1]) (rest := []) ⟨hx, hb, hml, hown, hts⟩ (kc_X4_signChanges l D q vl u hU.1 K r0 x1 1 hr0 z1 z2 v3 hcq) (cwV 2 hts (tw_gV wC_good xq_395 xq_396 xq_397 xq_350 xq_398) rfl rfl rfl cdd_X4_signChanges ⟨(Nat.le_of_ble_eq_true rfl), (Nat.le_of_ble_eq_true rfl)⟩) (cw_preV hK hM (co_X4 hr0) rfl) rfl rfl hl.1 rfl (lv_room (Nat.le_of_ble_eq_true rfl)) dcX4_eigenvalueSigns_8 ⟨(Nat.le_of_ble_eq_true rfl), (Nat.le_of_ble_eq_true rfl)⟩) (fun H locs hM => ?_)
  refine lv_aload_n hx hb dcX4_eigenvalueSigns_11 rfl (lv_at hl 0 rfl) ?_
  refine lv_iload_n hx hb dcX4_eigenvalueSigns_12 rfl (lv_at hl 1 rfl) ?_
  refine lv_iconst (v := (-1)) hx hb dcX4_eigenvalueSigns_13 (by decide) ?_
  obtain ⟨v5, z4, hcq, hq⟩ := tw_cl1 hq
  refine uw_cali hU hM (va_runV (As := [.int x1, .int (-1)]) (rest := [.int v3]) ⟨hx, hb, hml, hown, hts⟩ (kc_X4_signChanges l D q vl u hU.1 K r0 x1 (-1) hr0 z2 z4 v5 hcq) (cwV 2 hts (tw_gV wC_good xq_395 xq_396 xq_397 xq_350 xq_398) rfl rfl rfl cdd_X4_signChanges ⟨(Nat.le_of_ble_eq_true rfl), (Nat.le_of_ble_eq_true rfl)⟩) (cw_preV hK hM (co_X4 hr0) rfl) rfl rfl hl.1 rfl (lv_room (Nat.le_of_ble_eq_true rfl)) dcX4_eigenvalueSigns_14 ⟨(Nat.le_of_ble_eq_true rfl), (Nat.le_of_ble_eq_true rfl)⟩) (fun H locs hM => ?_)
  refine lv_isub hx hb dcX4_eigenvalueSigns_17 ?_
  exact cw_iret hx hb hr hlocks hM hq hQQ dcX4_eigenvalueSigns_18
theorem dcX4_signatureOfPart_0 : decode cX4_signatureOfPart 0 = .ok (.aload_n 0, 1) := dw_at cX4_signatureOfPart_k0 (p := 0) rfl (by decide +kernel)
theorem dcX4_signatureOfPart_1 : decode cX4_signatureOfPart 1 = .ok (.aload_n 1, 1) := dw_at cX4_signatureOfPart_k0 (p := 1) rfl (by decide +kernel)
theorem dcX4_signatureOfPart_2 : decode cX4_signatureOfPart 2 = .ok (.iload_n 2, 1) := dw_at cX4_signatureOfPart_k0 (p := 2) rfl (by decide +kernel)
theorem dcX4_signatureOfPart_3 : decode cX4_signatureOfPart 3 = .ok (.iload_n 3, 1) := dw_at cX4_signatureOfPart_k0 (p := 3) rfl (by decide +kernel)
theorem dcX4_signatureOfPart_4 : decode cX4_signatureOfPart 4 = .ok (.invokevirtual 86, 3) := dw_at cX4_signatureOfPart_k0 (p := 4) rfl (by decide +kernel)
theorem dcX4_signatureOfPart_7 : decode cX4_signatureOfPart 7 = .ok (.iconst 1, 1) := dw_at cX4_signatureOfPart_k0 (p := 7) rfl (by decide +kernel)
theorem dcX4_signatureOfPart_8 : decode cX4_signatureOfPart 8 = .ok (.isub, 1) := dw_at cX4_signatureOfPart_k0 (p := 8) rfl (by decide +kernel)
theorem dcX4_signatureOfPart_9 : decode cX4_signatureOfPart 9 = .ok (.istore 4, 2) := dw_at cX4_signatureOfPart_k0 (p := 9) rfl (by decide +kernel)
theorem dcX4_signatureOfPart_11 : decode cX4_signatureOfPart 11 = .ok (.aload_n 0, 1) := dw_at cX4_signatureOfPart_k0 (p := 11) rfl (by decide +kernel)
theorem dcX4_signatureOfPart_12 : decode cX4_signatureOfPart 12 = .ok (.getfield 21, 3) := dw_at cX4_signatureOfPart_k0 (p := 12) rfl (by decide +kernel)
theorem dcX4_signatureOfPart_15 : decode cX4_signatureOfPart 15 = .ok (.lconst 0, 1) := dw_at cX4_signatureOfPart_k0 (p := 15) rfl (by decide +kernel)
theorem dcX4_signatureOfPart_16 : decode cX4_signatureOfPart 16 = .ok (.invokestatic 89, 3) := dw_at cX4_signatureOfPart_k0 (p := 16) rfl (by decide +kernel)
theorem dcX4_signatureOfPart_19 : decode cX4_signatureOfPart 19 = .ok (.iconst 0, 1) := dw_at cX4_signatureOfPart_k0 (p := 19) rfl (by decide +kernel)
theorem dcX4_signatureOfPart_20 : decode cX4_signatureOfPart 20 = .ok (.istore 5, 2) := dw_at cX4_signatureOfPart_k0 (p := 20) rfl (by decide +kernel)
theorem dcX4_signatureOfPart_22 : decode cX4_signatureOfPart 22 = .ok (.iconst 0, 1) := dw_at cX4_signatureOfPart_k0 (p := 22) rfl (by decide +kernel)
theorem dcX4_signatureOfPart_23 : decode cX4_signatureOfPart 23 = .ok (.istore 6, 2) := dw_at cX4_signatureOfPart_k0 (p := 23) rfl (by decide +kernel)
theorem dcX4_signatureOfPart_25 : decode cX4_signatureOfPart 25 = .ok (.iload 6, 2) := dw_at cX4_signatureOfPart_k1 (p := 0) rfl (by decide +kernel)
theorem dcX4_signatureOfPart_27 : decode cX4_signatureOfPart 27 = .ok (.aload_n 1, 1) := dw_at cX4_signatureOfPart_k1 (p := 2) rfl (by decide +kernel)
theorem dcX4_signatureOfPart_28 : decode cX4_signatureOfPart 28 = .ok (.getfield 45, 3) := dw_at cX4_signatureOfPart_k1 (p := 3) rfl (by decide +kernel)
theorem dcX4_signatureOfPart_31 : decode cX4_signatureOfPart 31 = .ok (.if_icmp .ge 189, 3) := dw_at cX4_signatureOfPart_k1 (p := 6) rfl (by decide +kernel)
theorem dcX4_signatureOfPart_34 : decode cX4_signatureOfPart 34 = .ok (.aload_n 1, 1) := dw_at cX4_signatureOfPart_k1 (p := 9) rfl (by decide +kernel)
theorem dcX4_signatureOfPart_35 : decode cX4_signatureOfPart 35 = .ok (.getfield 83, 3) := dw_at cX4_signatureOfPart_k1 (p := 10) rfl (by decide +kernel)
theorem dcX4_signatureOfPart_38 : decode cX4_signatureOfPart 38 = .ok (.iconst 2, 1) := dw_at cX4_signatureOfPart_k1 (p := 13) rfl (by decide +kernel)
theorem dcX4_signatureOfPart_39 : decode cX4_signatureOfPart 39 = .ok (.iload 6, 2) := dw_at cX4_signatureOfPart_k1 (p := 14) rfl (by decide +kernel)
theorem dcX4_signatureOfPart_41 : decode cX4_signatureOfPart 41 = .ok (.imul, 1) := dw_at cX4_signatureOfPart_k1 (p := 16) rfl (by decide +kernel)
theorem dcX4_signatureOfPart_42 : decode cX4_signatureOfPart 42 = .ok (.iaload, 1) := dw_at cX4_signatureOfPart_k1 (p := 17) rfl (by decide +kernel)
theorem dcX4_signatureOfPart_43 : decode cX4_signatureOfPart 43 = .ok (.iload_n 2, 1) := dw_at cX4_signatureOfPart_k1 (p := 18) rfl (by decide +kernel)
theorem dcX4_signatureOfPart_44 : decode cX4_signatureOfPart 44 = .ok (.if_icmp .eq 6, 3) := dw_at cX4_signatureOfPart_k1 (p := 19) rfl (by decide +kernel)
theorem dcX4_signatureOfPart_47 : decode cX4_signatureOfPart 47 = .ok (.goto 167, 3) := dw_at cX4_signatureOfPart_k1 (p := 22) rfl (by decide +kernel)
theorem dcX4_signatureOfPart_50 : decode cX4_signatureOfPart 50 = .ok (.aload_n 1, 1) := dw_at cX4_signatureOfPart_k2 (p := 0) rfl (by decide +kernel)
theorem dcX4_signatureOfPart_51 : decode cX4_signatureOfPart 51 = .ok (.getfield 39, 3) := dw_at cX4_signatureOfPart_k2 (p := 1) rfl (by decide +kernel)
theorem dcX4_signatureOfPart_54 : decode cX4_signatureOfPart 54 = .ok (.iload 6, 2) := dw_at cX4_signatureOfPart_k2 (p := 4) rfl (by decide +kernel)
theorem dcX4_signatureOfPart_56 : decode cX4_signatureOfPart 56 = .ok (.iaload, 1) := dw_at cX4_signatureOfPart_k2 (p := 6) rfl (by decide +kernel)
theorem dcX4_signatureOfPart_57 : decode cX4_signatureOfPart 57 = .ok (.ifCond .le 10, 3) := dw_at cX4_signatureOfPart_k2 (p := 7) rfl (by decide +kernel)
theorem dcX4_signatureOfPart_60 : decode cX4_signatureOfPart 60 = .ok (.iconst 2, 1) := dw_at cX4_signatureOfPart_k2 (p := 10) rfl (by decide +kernel)
theorem dcX4_signatureOfPart_61 : decode cX4_signatureOfPart 61 = .ok (.iload 6, 2) := dw_at cX4_signatureOfPart_k2 (p := 11) rfl (by decide +kernel)
theorem dcX4_signatureOfPart_63 : decode cX4_signatureOfPart 63 = .ok (.imul, 1) := dw_at cX4_signatureOfPart_k2 (p := 13) rfl (by decide +kernel)
theorem dcX4_signatureOfPart_64 : decode cX4_signatureOfPart 64 = .ok (.goto 9, 3) := dw_at cX4_signatureOfPart_k2 (p := 14) rfl (by decide +kernel)
theorem dcX4_signatureOfPart_67 : decode cX4_signatureOfPart 67 = .ok (.iconst 2, 1) := dw_at cX4_signatureOfPart_k2 (p := 17) rfl (by decide +kernel)
theorem dcX4_signatureOfPart_68 : decode cX4_signatureOfPart 68 = .ok (.iload 6, 2) := dw_at cX4_signatureOfPart_k2 (p := 18) rfl (by decide +kernel)
theorem dcX4_signatureOfPart_70 : decode cX4_signatureOfPart 70 = .ok (.imul, 1) := dw_at cX4_signatureOfPart_k2 (p := 20) rfl (by decide +kernel)
theorem dcX4_signatureOfPart_71 : decode cX4_signatureOfPart 71 = .ok (.iconst 1, 1) := dw_at cX4_signatureOfPart_k2 (p := 21) rfl (by decide +kernel)
theorem dcX4_signatureOfPart_72 : decode cX4_signatureOfPart 72 = .ok (.iadd, 1) := dw_at cX4_signatureOfPart_k2 (p := 22) rfl (by decide +kernel)
theorem dcX4_signatureOfPart_73 : decode cX4_signatureOfPart 73 = .ok (.istore 7, 2) := dw_at cX4_signatureOfPart_k2 (p := 23) rfl (by decide +kernel)
theorem dcX4_signatureOfPart_75 : decode cX4_signatureOfPart 75 = .ok (.aload_n 0, 1) := dw_at cX4_signatureOfPart_k3 (p := 0) rfl (by decide +kernel)
theorem dcX4_signatureOfPart_76 : decode cX4_signatureOfPart 76 = .ok (.getfield 9, 3) := dw_at cX4_signatureOfPart_k3 (p := 1) rfl (by decide +kernel)
theorem dcX4_signatureOfPart_79 : decode cX4_signatureOfPart 79 = .ok (.iconst 2, 1) := dw_at cX4_signatureOfPart_k3 (p := 4) rfl (by decide +kernel)
theorem dcX4_signatureOfPart_80 : decode cX4_signatureOfPart 80 = .ok (.iload 7, 2) := dw_at cX4_signatureOfPart_k3 (p := 5) rfl (by decide +kernel)
theorem dcX4_signatureOfPart_82 : decode cX4_signatureOfPart 82 = .ok (.imul, 1) := dw_at cX4_signatureOfPart_k3 (p := 7) rfl (by decide +kernel)
theorem dcX4_signatureOfPart_83 : decode cX4_signatureOfPart 83 = .ok (.iaload, 1) := dw_at cX4_signatureOfPart_k3 (p := 8) rfl (by decide +kernel)
theorem dcX4_signatureOfPart_84 : decode cX4_signatureOfPart 84 = .ok (.istore 8, 2) := dw_at cX4_signatureOfPart_k3 (p := 9) rfl (by decide +kernel)
theorem dcX4_signatureOfPart_86 : decode cX4_signatureOfPart 86 = .ok (.aload_n 0, 1) := dw_at cX4_signatureOfPart_k3 (p := 11) rfl (by decide +kernel)
theorem dcX4_signatureOfPart_87 : decode cX4_signatureOfPart 87 = .ok (.getfield 15, 3) := dw_at cX4_signatureOfPart_k3 (p := 12) rfl (by decide +kernel)
theorem dcX4_signatureOfPart_90 : decode cX4_signatureOfPart 90 = .ok (.iload 8, 2) := dw_at cX4_signatureOfPart_k3 (p := 15) rfl (by decide +kernel)
theorem dcX4_signatureOfPart_92 : decode cX4_signatureOfPart 92 = .ok (.iaload, 1) := dw_at cX4_signatureOfPart_k3 (p := 17) rfl (by decide +kernel)
theorem dcX4_signatureOfPart_93 : decode cX4_signatureOfPart 93 = .ok (.iload_n 3, 1) := dw_at cX4_signatureOfPart_k3 (p := 18) rfl (by decide +kernel)
theorem dcX4_signatureOfPart_94 : decode cX4_signatureOfPart 94 = .ok (.if_icmp .ne 52, 3) := dw_at cX4_signatureOfPart_k3 (p := 19) rfl (by decide +kernel)
theorem dcX4_signatureOfPart_97 : decode cX4_signatureOfPart 97 = .ok (.aload_n 0, 1) := dw_at cX4_signatureOfPart_k3 (p := 22) rfl (by decide +kernel)
theorem dcX4_signatureOfPart_98 : decode cX4_signatureOfPart 98 = .ok (.getfield 9, 3) := dw_at cX4_signatureOfPart_k3 (p := 23) rfl (by decide +kernel)
theorem dcX4_signatureOfPart_101 : decode cX4_signatureOfPart 101 = .ok (.iconst 2, 1) := dw_at cX4_signatureOfPart_k4 (p := 0) rfl (by decide +kernel)
theorem dcX4_signatureOfPart_102 : decode cX4_signatureOfPart 102 = .ok (.aload_n 1, 1) := dw_at cX4_signatureOfPart_k4 (p := 1) rfl (by decide +kernel)
theorem dcX4_signatureOfPart_103 : decode cX4_signatureOfPart 103 = .ok (.getfield 42, 3) := dw_at cX4_signatureOfPart_k4 (p := 2) rfl (by decide +kernel)
theorem dcX4_signatureOfPart_106 : decode cX4_signatureOfPart 106 = .ok (.iload 7, 2) := dw_at cX4_signatureOfPart_k4 (p := 5) rfl (by decide +kernel)
theorem dcX4_signatureOfPart_108 : decode cX4_signatureOfPart 108 = .ok (.iconst 1, 1) := dw_at cX4_signatureOfPart_k4 (p := 7) rfl (by decide +kernel)
theorem dcX4_signatureOfPart_109 : decode cX4_signatureOfPart 109 = .ok (.ixor, 1) := dw_at cX4_signatureOfPart_k4 (p := 8) rfl (by decide +kernel)
theorem dcX4_signatureOfPart_110 : decode cX4_signatureOfPart 110 = .ok (.iaload, 1) := dw_at cX4_signatureOfPart_k4 (p := 9) rfl (by decide +kernel)
theorem dcX4_signatureOfPart_111 : decode cX4_signatureOfPart 111 = .ok (.imul, 1) := dw_at cX4_signatureOfPart_k4 (p := 10) rfl (by decide +kernel)
theorem dcX4_signatureOfPart_112 : decode cX4_signatureOfPart 112 = .ok (.iaload, 1) := dw_at cX4_signatureOfPart_k4 (p := 11) rfl (by decide +kernel)
theorem dcX4_signatureOfPart_113 : decode cX4_signatureOfPart 113 = .ok (.istore 9, 2) := dw_at cX4_signatureOfPart_k4 (p := 12) rfl (by decide +kernel)
theorem dcX4_signatureOfPart_115 : decode cX4_signatureOfPart 115 = .ok (.aload_n 0, 1) := dw_at cX4_signatureOfPart_k4 (p := 14) rfl (by decide +kernel)
theorem dcX4_signatureOfPart_116 : decode cX4_signatureOfPart 116 = .ok (.aload_n 0, 1) := dw_at cX4_signatureOfPart_k4 (p := 15) rfl (by decide +kernel)
theorem dcX4_signatureOfPart_117 : decode cX4_signatureOfPart 117 = .ok (.getfield 18, 3) := dw_at cX4_signatureOfPart_k4 (p := 16) rfl (by decide +kernel)
theorem dcX4_signatureOfPart_120 : decode cX4_signatureOfPart 120 = .ok (.iload 8, 2) := dw_at cX4_signatureOfPart_k4 (p := 19) rfl (by decide +kernel)
theorem dcX4_signatureOfPart_122 : decode cX4_signatureOfPart 122 = .ok (.iaload, 1) := dw_at cX4_signatureOfPart_k4 (p := 21) rfl (by decide +kernel)
theorem dcX4_signatureOfPart_123 : decode cX4_signatureOfPart 123 = .ok (.aload_n 0, 1) := dw_at cX4_signatureOfPart_k4 (p := 22) rfl (by decide +kernel)
theorem dcX4_signatureOfPart_124 : decode cX4_signatureOfPart 124 = .ok (.getfield 18, 3) := dw_at cX4_signatureOfPart_k4 (p := 23) rfl (by decide +kernel)
theorem dcX4_signatureOfPart_127 : decode cX4_signatureOfPart 127 = .ok (.iload 9, 2) := dw_at cX4_signatureOfPart_k5 (p := 0) rfl (by decide +kernel)
theorem dcX4_signatureOfPart_129 : decode cX4_signatureOfPart 129 = .ok (.iaload, 1) := dw_at cX4_signatureOfPart_k5 (p := 2) rfl (by decide +kernel)
theorem dcX4_signatureOfPart_130 : decode cX4_signatureOfPart 130 = .ok (.aload_n 1, 1) := dw_at cX4_signatureOfPart_k5 (p := 3) rfl (by decide +kernel)
theorem dcX4_signatureOfPart_131 : decode cX4_signatureOfPart 131 = .ok (.getfield 39, 3) := dw_at cX4_signatureOfPart_k5 (p := 4) rfl (by decide +kernel)
theorem dcX4_signatureOfPart_134 : decode cX4_signatureOfPart 134 = .ok (.iload 6, 2) := dw_at cX4_signatureOfPart_k5 (p := 7) rfl (by decide +kernel)
theorem dcX4_signatureOfPart_136 : decode cX4_signatureOfPart 136 = .ok (.iaload, 1) := dw_at cX4_signatureOfPart_k5 (p := 9) rfl (by decide +kernel)
theorem dcX4_signatureOfPart_137 : decode cX4_signatureOfPart 137 = .ok (.ineg, 1) := dw_at cX4_signatureOfPart_k5 (p := 10) rfl (by decide +kernel)
theorem dcX4_signatureOfPart_138 : decode cX4_signatureOfPart 138 = .ok (.iload 4, 2) := dw_at cX4_signatureOfPart_k5 (p := 11) rfl (by decide +kernel)
theorem dcX4_signatureOfPart_140 : decode cX4_signatureOfPart 140 = .ok (.invokevirtual 92, 3) := dw_at cX4_signatureOfPart_k5 (p := 13) rfl (by decide +kernel)
theorem dcX4_signatureOfPart_143 : decode cX4_signatureOfPart 143 = .ok (.goto 71, 3) := dw_at cX4_signatureOfPart_k5 (p := 16) rfl (by decide +kernel)
theorem dcX4_signatureOfPart_146 : decode cX4_signatureOfPart 146 = .ok (.aload_n 0, 1) := dw_at cX4_signatureOfPart_k5 (p := 19) rfl (by decide +kernel)
theorem dcX4_signatureOfPart_147 : decode cX4_signatureOfPart 147 = .ok (.getfield 9, 3) := dw_at cX4_signatureOfPart_k5 (p := 20) rfl (by decide +kernel)
theorem dcX4_signatureOfPart_150 : decode cX4_signatureOfPart 150 = .ok (.iconst 2, 1) := dw_at cX4_signatureOfPart_k5 (p := 23) rfl (by decide +kernel)
theorem dcX4_signatureOfPart_151 : decode cX4_signatureOfPart 151 = .ok (.iload 7, 2) := dw_at cX4_signatureOfPart_k6 (p := 0) rfl (by decide +kernel)
theorem dcX4_signatureOfPart_153 : decode cX4_signatureOfPart 153 = .ok (.imul, 1) := dw_at cX4_signatureOfPart_k6 (p := 2) rfl (by decide +kernel)
theorem dcX4_signatureOfPart_154 : decode cX4_signatureOfPart 154 = .ok (.iconst 1, 1) := dw_at cX4_signatureOfPart_k6 (p := 3) rfl (by decide +kernel)
theorem dcX4_signatureOfPart_155 : decode cX4_signatureOfPart 155 = .ok (.iadd, 1) := dw_at cX4_signatureOfPart_k6 (p := 4) rfl (by decide +kernel)
theorem dcX4_signatureOfPart_156 : decode cX4_signatureOfPart 156 = .ok (.iaload, 1) := dw_at cX4_signatureOfPart_k6 (p := 5) rfl (by decide +kernel)
theorem dcX4_signatureOfPart_157 : decode cX4_signatureOfPart 157 = .ok (.istore 9, 2) := dw_at cX4_signatureOfPart_k6 (p := 6) rfl (by decide +kernel)
theorem dcX4_signatureOfPart_159 : decode cX4_signatureOfPart 159 = .ok (.aload_n 0, 1) := dw_at cX4_signatureOfPart_k6 (p := 8) rfl (by decide +kernel)
theorem dcX4_signatureOfPart_160 : decode cX4_signatureOfPart 160 = .ok (.getfield 9, 3) := dw_at cX4_signatureOfPart_k6 (p := 9) rfl (by decide +kernel)
theorem dcX4_signatureOfPart_163 : decode cX4_signatureOfPart 163 = .ok (.iconst 2, 1) := dw_at cX4_signatureOfPart_k6 (p := 12) rfl (by decide +kernel)
theorem dcX4_signatureOfPart_164 : decode cX4_signatureOfPart 164 = .ok (.aload_n 1, 1) := dw_at cX4_signatureOfPart_k6 (p := 13) rfl (by decide +kernel)
theorem dcX4_signatureOfPart_165 : decode cX4_signatureOfPart 165 = .ok (.getfield 42, 3) := dw_at cX4_signatureOfPart_k6 (p := 14) rfl (by decide +kernel)
theorem dcX4_signatureOfPart_168 : decode cX4_signatureOfPart 168 = .ok (.iload 7, 2) := dw_at cX4_signatureOfPart_k6 (p := 17) rfl (by decide +kernel)
theorem dcX4_signatureOfPart_170 : decode cX4_signatureOfPart 170 = .ok (.iaload, 1) := dw_at cX4_signatureOfPart_k6 (p := 19) rfl (by decide +kernel)
theorem dcX4_signatureOfPart_171 : decode cX4_signatureOfPart 171 = .ok (.imul, 1) := dw_at cX4_signatureOfPart_k6 (p := 20) rfl (by decide +kernel)
theorem dcX4_signatureOfPart_172 : decode cX4_signatureOfPart 172 = .ok (.iaload, 1) := dw_at cX4_signatureOfPart_k6 (p := 21) rfl (by decide +kernel)
theorem dcX4_signatureOfPart_173 : decode cX4_signatureOfPart 173 = .ok (.istore 10, 2) := dw_at cX4_signatureOfPart_k6 (p := 22) rfl (by decide +kernel)
theorem dcX4_signatureOfPart_175 : decode cX4_signatureOfPart 175 = .ok (.aload_n 0, 1) := dw_at cX4_signatureOfPart_k7 (p := 0) rfl (by decide +kernel)
theorem dcX4_signatureOfPart_176 : decode cX4_signatureOfPart 176 = .ok (.aload_n 0, 1) := dw_at cX4_signatureOfPart_k7 (p := 1) rfl (by decide +kernel)
theorem dcX4_signatureOfPart_177 : decode cX4_signatureOfPart 177 = .ok (.getfield 18, 3) := dw_at cX4_signatureOfPart_k7 (p := 2) rfl (by decide +kernel)
theorem dcX4_signatureOfPart_180 : decode cX4_signatureOfPart 180 = .ok (.iload 9, 2) := dw_at cX4_signatureOfPart_k7 (p := 5) rfl (by decide +kernel)
theorem dcX4_signatureOfPart_182 : decode cX4_signatureOfPart 182 = .ok (.iaload, 1) := dw_at cX4_signatureOfPart_k7 (p := 7) rfl (by decide +kernel)
theorem dcX4_signatureOfPart_183 : decode cX4_signatureOfPart 183 = .ok (.aload_n 0, 1) := dw_at cX4_signatureOfPart_k7 (p := 8) rfl (by decide +kernel)
theorem dcX4_signatureOfPart_184 : decode cX4_signatureOfPart 184 = .ok (.getfield 18, 3) := dw_at cX4_signatureOfPart_k7 (p := 9) rfl (by decide +kernel)
theorem dcX4_signatureOfPart_187 : decode cX4_signatureOfPart 187 = .ok (.iload 10, 2) := dw_at cX4_signatureOfPart_k7 (p := 12) rfl (by decide +kernel)
theorem dcX4_signatureOfPart_189 : decode cX4_signatureOfPart 189 = .ok (.iaload, 1) := dw_at cX4_signatureOfPart_k7 (p := 14) rfl (by decide +kernel)
theorem dcX4_signatureOfPart_190 : decode cX4_signatureOfPart 190 = .ok (.aload_n 1, 1) := dw_at cX4_signatureOfPart_k7 (p := 15) rfl (by decide +kernel)
theorem dcX4_signatureOfPart_191 : decode cX4_signatureOfPart 191 = .ok (.getfield 39, 3) := dw_at cX4_signatureOfPart_k7 (p := 16) rfl (by decide +kernel)
theorem dcX4_signatureOfPart_194 : decode cX4_signatureOfPart 194 = .ok (.iload 6, 2) := dw_at cX4_signatureOfPart_k7 (p := 19) rfl (by decide +kernel)
theorem dcX4_signatureOfPart_196 : decode cX4_signatureOfPart 196 = .ok (.iaload, 1) := dw_at cX4_signatureOfPart_k7 (p := 21) rfl (by decide +kernel)
theorem dcX4_signatureOfPart_197 : decode cX4_signatureOfPart 197 = .ok (.iload 4, 2) := dw_at cX4_signatureOfPart_k7 (p := 22) rfl (by decide +kernel)
theorem dcX4_signatureOfPart_199 : decode cX4_signatureOfPart 199 = .ok (.invokevirtual 92, 3) := dw_at cX4_signatureOfPart_k8 (p := 0) rfl (by decide +kernel)
theorem dcX4_signatureOfPart_202 : decode cX4_signatureOfPart 202 = .ok (.iload 5, 2) := dw_at cX4_signatureOfPart_k8 (p := 3) rfl (by decide +kernel)
theorem dcX4_signatureOfPart_204 : decode cX4_signatureOfPart 204 = .ok (.aload_n 1, 1) := dw_at cX4_signatureOfPart_k8 (p := 5) rfl (by decide +kernel)
theorem dcX4_signatureOfPart_205 : decode cX4_signatureOfPart 205 = .ok (.getfield 39, 3) := dw_at cX4_signatureOfPart_k8 (p := 6) rfl (by decide +kernel)
theorem dcX4_signatureOfPart_208 : decode cX4_signatureOfPart 208 = .ok (.iload 6, 2) := dw_at cX4_signatureOfPart_k8 (p := 9) rfl (by decide +kernel)
theorem dcX4_signatureOfPart_210 : decode cX4_signatureOfPart 210 = .ok (.iaload, 1) := dw_at cX4_signatureOfPart_k8 (p := 11) rfl (by decide +kernel)
theorem dcX4_signatureOfPart_211 : decode cX4_signatureOfPart 211 = .ok (.iadd, 1) := dw_at cX4_signatureOfPart_k8 (p := 12) rfl (by decide +kernel)
theorem dcX4_signatureOfPart_212 : decode cX4_signatureOfPart 212 = .ok (.istore 5, 2) := dw_at cX4_signatureOfPart_k8 (p := 13) rfl (by decide +kernel)
theorem dcX4_signatureOfPart_214 : decode cX4_signatureOfPart 214 = .ok (.iinc 6 1, 3) := dw_at cX4_signatureOfPart_k8 (p := 15) rfl (by decide +kernel)
theorem dcX4_signatureOfPart_217 : decode cX4_signatureOfPart 217 = .ok (.goto (-192), 3) := dw_at cX4_signatureOfPart_k8 (p := 18) rfl (by decide +kernel)
theorem dcX4_signatureOfPart_220 : decode cX4_signatureOfPart 220 = .ok (.aload_n 0, 1) := dw_at cX4_signatureOfPart_k8 (p := 21) rfl (by decide +kernel)
theorem dcX4_signatureOfPart_221 : decode cX4_signatureOfPart 221 = .ok (.iload 4, 2) := dw_at cX4_signatureOfPart_k8 (p := 22) rfl (by decide +kernel)
theorem dcX4_signatureOfPart_223 : decode cX4_signatureOfPart 223 = .ok (.invokevirtual 96, 3) := dw_at cX4_signatureOfPart_k8 (p := 24) rfl (by decide +kernel)
theorem dcX4_signatureOfPart_226 : decode cX4_signatureOfPart 226 = .ok (.iload 5, 2) := dw_at cX4_signatureOfPart_k8 (p := 27) rfl (by decide +kernel)
theorem dcX4_signatureOfPart_228 : decode cX4_signatureOfPart 228 = .ok (.isub, 1) := dw_at cX4_signatureOfPart_k8 (p := 29) rfl (by decide +kernel)
theorem dcX4_signatureOfPart_229 : decode cX4_signatureOfPart 229 = .ok (.ireturn, 1) := dw_at cX4_signatureOfPart_k8 (p := 30) rfl (by decide +kernel)
def cm_X4_signatureOfPart_0 (vl : Nat → Nat) (K : Nat) (go : Nat → Int32 → Int32 → Int32 → Int32 → Int32 → Nat → Nat → Int32 → ow_MS → Option (Int32 × ow_MS)) (x2 : Int32) (x3 : Int32) (x4 : Int32) (x5 : Int32) (x6 : Int32) (r0 : Nat) (r1 : Nat) (t0 : Int32) (z : ow_MS) : Option (Int32 × ow_MS) :=
 cs1 (ce_X4_numberRows vl K r0 r1 x2 x3 z) fun v2 z1 => cs0 (ce_J7_fill_d0a16 vl K (r0 + 5) 0 z1) fun z3 => go 1 x2 x3 (v2 - 1) 0 0 r0 r1 0 z3
def cm_X4_signatureOfPart_1 (vl : Nat → Nat) (K : Nat) (go : Nat → Int32 → Int32 → Int32 → Int32 → Int32 → Nat → Nat → Int32 → ow_MS → Option (Int32 × ow_MS)) (x2 : Int32) (x3 : Int32) (x4 : Int32) (x5 : Int32) (x6 : Int32) (r0 : Nat) (r1 : Nat) (t0 : Int32) (z : ow_MS) : Option (Int32 × ow_MS) :=
 rdF z (r1 + 8) fun v4 => (if v4 ≤ x6 then cs1 (ce_X4_eigenvalueSigns vl K r0 x4 z) fun v6 z5 => some ((v6 - x5), z5)
 else crI (cX vl) z (r1 + 6) (2 * x6) fun v7 => (if v7 = x2 then crI (cX vl) z (r1 + 3) x6 fun v8 => (if v8 ≤ 0 then go 2 x2 x3 x4 x5 x6 r0 r1 ((2 * x6) + 1) z
 else go 2 x2 x3 x4 x5 x6 r0 r1 (2 * x6) z)
 else go 3 x2 x3 x4 x5 x6 r0 r1 0 z))
def cm_X4_signatureOfPart_2 (vl : Nat → Nat) (K : Nat) (go : Nat → Int32 → Int32 → Int32 → Int32 → Int32 → Nat → Nat → Int32 → ow_MS → Option (Int32 × ow_MS)) (x2 : Int32) (x3 : Int32) (x4 : Int32) (x5 : Int32) (x6 : Int32) (r0 : Nat) (r1 : Nat) (t0 : Int32) (z : ow_MS) : Option (Int32 × ow_MS) :=
 crI (cX vl) z (r0 + 1) (2 * t0) fun v9 => crI (cX vl) z (r0 + 3) v9 fun v10 => (if v10 = x3 then crI (cX vl) z (r1 + 2) (t0 ^^^ 1) fun v19 => crI (cX vl) z (r0 + 1) (2 * v19) fun v20 => crI (cX vl) z (r0 + 4) v9 fun v21 => crI (cX vl) z (r0 + 4) v20 fun v22 => crI (cX vl) z (r1 + 3) x6 fun v23 => cs0 (ce_X4_addAt vl K r0 v21 v22 (-v23) x4 z) fun z24 => go 3 x2 x3 x4 x5 x6 r0 r1 0 z24
 else crI (cX vl) z (r0 + 1) ((2 * t0) + 1) fun v11 => crI (cX vl) z (r1 + 2) t0 fun v12 => crI (cX vl) z (r0 + 1) (2 * v12) fun v13 => crI (cX vl) z (r0 + 4) v11 fun v14 => crI (cX vl) z (r0 + 4) v13 fun v15 => crI (cX vl) z (r1 + 3) x6 fun v16 => cs0 (ce_X4_addAt vl K r0 v14 v15 v16 x4 z) fun z17 => crI (cX vl) z17 (r1 + 3) x6 fun v18 => go 3 x2 x3 x4 (x5 + v18) x6 r0 r1 0 z17)
def cm_X4_signatureOfPart_3 (vl : Nat → Nat) (K : Nat) (go : Nat → Int32 → Int32 → Int32 → Int32 → Int32 → Nat → Nat → Int32 → ow_MS → Option (Int32 × ow_MS)) (x2 : Int32) (x3 : Int32) (x4 : Int32) (x5 : Int32) (x6 : Int32) (r0 : Nat) (r1 : Nat) (t0 : Int32) (z : ow_MS) : Option (Int32 × ow_MS) :=
 go 1 x2 x3 x4 x5 (x6 + 1) r0 r1 0 z
def cb_X4_signatureOfPart (vl : Nat → Nat) (K : Nat) (go : Nat → Int32 → Int32 → Int32 → Int32 → Int32 → Nat → Nat → Int32 → ow_MS → Option (Int32 × ow_MS)) (L : Nat) (x2 : Int32) (x3 : Int32) (x4 : Int32) (x5 : Int32) (x6 : Int32) (r0 : Nat) (r1 : Nat) (t0 : Int32) (z : ow_MS) : Option (Int32 × ow_MS) := match L with
  | 0 => cm_X4_signatureOfPart_0 vl K go x2 x3 x4 x5 x6 r0 r1 t0 z
  | 1 => cm_X4_signatureOfPart_1 vl K go x2 x3 x4 x5 x6 r0 r1 t0 z
  | 2 => cm_X4_signatureOfPart_2 vl K go x2 x3 x4 x5 x6 r0 r1 t0 z
  | 3 => cm_X4_signatureOfPart_3 vl K go x2 x3 x4 x5 x6 r0 r1 t0 z
  | _ => none
def c_X4_signatureOfPart (vl : Nat → Nat) (K : Nat) : Nat → Nat → Int32 → Int32 → Int32 → Int32 → Int32 → Nat → Nat → Int32 → ow_MS → Option (Int32 × ow_MS)
  | 0 => fun _ _ _ _ _ _ _ _ _ _ => none
  | k + 1 => cb_X4_signatureOfPart vl K (c_X4_signatureOfPart vl K k)
def ce_X4_signatureOfPart (vl : Nat → Nat) (K : Nat) (r0 : Nat) (r1 : Nat) (x2 : Int32) (x3 : Int32) (z : ow_MS) : Option (Int32 × ow_MS) := c_X4_signatureOfPart vl K K 0 x2 x3 0 0 0 r0 r1 0 z
abbrev wc_X4_signatureOfPart : List Cond := .code yX4_signatureOfPart cX4_signatureOfPart 11 (some .int) :: wC
theorem cdd_X4_signatureOfPart : yX4_signatureOfPart.cls = RX4 ∧ yX4_signatureOfPart.cls ≠ "java/lang/invoke/MethodHandle" ∧ yX4_signatureOfPart.cls ≠ "java/lang/invoke/VarHandle" ∧ (parseMethodDescriptor yX4_signatureOfPart.desc).map (fun d => d.parameters.length) = some 3 := by decide +kernel
set_option maxHeartbeats 4000000 in
set_option maxRecDepth 100000 in
theorem kc_X4_signatureOfPart (l : Launch) (D : va_G) (q : Nat → ClassId) (vl u : Nat → Nat) (hU0 : tw_inj (cX vl) u) (K : Nat) (r0 : Nat) (r1 : Nat) (x2 : Int32) (x3 : Int32) (hr0 : cw_X4 r0) (hr1 : cw_X7 r1) (z z1 : ow_MS) (r : Int32) (hq : ce_X4_signatureOfPart vl K r0 r1 x2 x3 z = some (r, z1)) : Met l yX4_signatureOfPart wc_X4_signatureOfPart ({ frames := 3, cells := 0, slots := 0, locals := 110 } : Room) (va_Pc [.ref (u r0), .ref (u r1), .int x2, .int x3] (cw_pre D q vl u z)) (va_Qi (fun x (_ : Unit) => x = r) (fun _ t => va_P D vwCl (uw (cX vl) q u z1) t.heap) (tw_A (cX vl) u)) 0 0 (tw_A (cX vl) u) := by
  refine Met.ofW (cc := cX4_signatureOfPart) (maxL := 11) (ret := (some .int)) (by decide) rfl ?_
  intro p e s m args below meth c s₁ B hml hv
  obtain ⟨rfl, hP, hK⟩ := hv
  have hx := B.exec
  have hb := B.bytes
  have hr := B.returns
  have hts := atoms_spec (ws := wc_X4_signatureOfPart) B.pre
  have hT : ∀ w ∈ wC, w.before ([.ref (u r0), .ref (u r1), .int x2, .int x3] : List Value).toArray s = true := fun w h => hts w (List.mem_cons_of_mem _ h)
  have hown : s.vm.findClass RX4 = some m.cls := findClass_of_methodNamed B.named
  have hlocks := B.notSynchronized
  have hU : uw_inj (cX vl) u (tw_A (cX vl) u) := ⟨hU0, fun h hh => ⟨h, hh, rfl⟩⟩
  have hM : uw_M D vwCl (cX vl) q (tw_A (cX vl) u) s.heap u z s.heap [] := ⟨hP, va_S.rf⟩
  have hl := lv_entry ([.ref (u r0), .ref (u r1), .int x2, .int x3]) (n := 11) (Nat.le_of_ble_eq_true rfl)
  rw [lg_entry_eq]
  generalize (lg_sl ([.ref (u r0), .ref (u r1), .int x2, .int x3]) ++ List.replicate (11 - (lg_sl ([.ref (u r0), .ref (u r1), .int x2, .int x3])).length) Slot.unset).toArray = ls at hl ⊢
  have hl : lv_has ls 11 [(0, .ref (u r0)), (1, .ref (u r1)), (2, .int x2), (3, .int x3)] := hl
  refine ow_named (fun QQ hQQ => ?_)
  generalize ([.ref (u r0), .ref (u r1), .int x2, .int x3] : List Value).toArray = args at hts hT hQQ ⊢
  have key : ∀ k : Nat, (∀ (x2 : Int32) (x3 : Int32) (x4 : Int32) (x5 : Int32) (x6 : Int32) (r0 : Nat) (r1 : Nat) (t0 : Int32) (z : ow_MS) (H : Heap) (locs : List Loc) (ls : Array Slot), cw_X4 r0 → cw_X7 r1 → uw_M D vwCl (cX vl) q (tw_A (cX vl) u) s.heap u z H locs → lv_has ls 11 [(0, .ref (u r0)), (1, .ref (u r1)), (2, .int x2), (3, .int x3)] → c_X4_signatureOfPart vl K k 0 x2 x3 x4 x5 x6 r0 r1 t0 z = some (r, z1) → W p l e ({ frames := 3, cells := 0, slots := 0, locals := 110 } : Room) s m args below meth c H locs 0 0 QQ (F0 m 0 ls [])) ∧ (∀ (x2 : Int32) (x3 : Int32) (x4 : Int32) (x5 : Int32) (x6 : Int32) (r0 : Nat) (r1 : Nat) (t0 : Int32) (z : ow_MS) (H : Heap) (locs : List Loc) (ls : Array Slot), cw_X4 r0 → cw_X7 r1 → uw_M D vwCl (cX vl) q (tw_A (cX vl) u) s.heap u z H locs → lv_has ls 11 [(0, .ref (u r0)), (1, .ref (u r1)), (2, .int x2), (3, .int x3), (4, .int x4), (5, .int x5), (6, .int x6)] → c_X4_signatureOfPart vl K k 1 x2 x3 x4 x5 x6 r0 r1 t0 z = some (r, z1) → W p l e ({ frames := 3, cells := 0, slots := 0, locals := 110 } : Room) s m args below meth c H locs 0 0 QQ (F0 m 25 ls [])) ∧ (∀ (x2 : Int32) (x3 : Int32) (x4 : Int32) (x5 : Int32) (x6 : Int32) (r0 : Nat) (r1 : Nat) (t0 : Int32) (z : ow_MS) (H : Heap) (locs : List Loc) (ls : Array Slot), cw_X4 r0 → cw_X7 r1 → uw_M D vwCl (cX vl) q (tw_A (cX vl) u) s.heap u z H locs → lv_has ls 11 [(0, .ref (u r0)), (1, .ref (u r1)), (2, .int x2), (3, .int x3), (4, .int x4), (5, .int x5), (6, .int x6)] → c_X4_signatureOfPart vl K k 2 x2 x3 x4 x5 x6 r0 r1 t0 z = some (r, z1) → W p l e ({ frames := 3, cells := 0, slots := 0, locals := 110 } : Room) s m args below meth c H locs 0 0 QQ (F0 m 73 ls [.int t0])) ∧ (∀ (x2 : Int32) (x3 : Int32) (x4 : Int32) (x5 : Int32) (x6 : Int32) (r0 : Nat) (r1 : Nat) (t0 : Int32) (z : ow_MS) (H : Heap) (locs : List Loc) (ls : Array Slot), cw_X4 r0 → cw_X7 r1 → uw_M D vwCl (cX vl) q (tw_A (cX vl) u) s.heap u z H locs → lv_has ls 11 [(0, .ref (u r0)), (1, .ref (u r1)), (2, .int x2), (3, .int x3), (4, .int x4), (5, .int x5), (6, .int x6)] → c_X4_signatureOfPart vl K k 3 x2 x3 x4 x5 x6 r0 r1 t0 z = some (r, z1) → W p l e ({ frames := 3, cells := 0, slots := 0, locals := 110 } : Room) s m args below meth c H locs 0 0 QQ (F0 m 214 ls [])) := by
    intro k
    induction k with
    | zero => exact ⟨fun _ _ _ _ _ _ _ _ _ _ _ _ _ _ _ _ hq => cw_no hq, fun _ _ _ _ _ _ _ _ _ _ _ _ _ _ _ _ hq => cw_no hq, fun _ _ _ _ _ _ _ _ _ _ _ _ _ _ _ _ hq => cw_no hq, fun _ _ _ _ _ _ _ _ _ _ _ _ _ _ _ _ hq => cw_no hq⟩
    | succ k ih =>
      obtain ⟨ih_0, ih_1, ih_2, ih_3⟩ := ih
      refine ⟨?_, ?_, ?_, ?_⟩
      · intro x2 x3 x4 x5 x6 r0 r1 t0 z H locs ls hr0 hr1 hM hl hq
        have hq : cm_X4_signatureOfPart_0 vl K (c_X4_signatureOfPart vl K k) x2 x3 x4 x5 x6 r0 r1 t0 z = some (r, z1) := hq
        unfold cm_X4_signatureOfPart_0 at hq
        refine lv_aload_n hx hb dcX4_signatureOfPart_0 rfl (lv_at hl 0 rfl) ?_
        refine lv_aload_n hx hb dcX4_signatureOfPart_1 rfl (lv_at hl 1 rfl) ?_
        refine lv_iload_n hx hb dcX4_signatureOfPart_2 rfl (lv_at hl 2 rfl) ?_
        refine lv_iload_n hx hb dcX4_signatureOfPart_3 rfl (lv_at hl 3 rfl) ?_
        obtain ⟨v2, z1, hcq, hq⟩ := tw_cl1 hq
        refine uw_cali hU hM (va_runV (As := [.ref (u r1), .int x2, .int x3]) (rest := []) ⟨hx, hb, hml, hown, hts⟩ (kc_X4_numberRows l D q vl u hU.1 K r0 r1 x2 x3 hr0 hr1 z z1 v2 hcq) (cwV 3 hts (tw_gV wC_good xq_368 xq_369 xq_370 xq_350 xq_371) rfl rfl rfl cdd_X4_numberRows ⟨(Nat.le_of_ble_eq_true rfl), (Nat.le_of_ble_eq_true rfl)⟩) (cw_preV hK hM (co_X4 hr0) rfl) rfl rfl hl.1 rfl (lv_room (Nat.le_of_ble_eq_true rfl)) dcX4_signatureOfPart_4 ⟨(Nat.le_of_ble_eq_true rfl), (Nat.le_of_ble_eq_true rfl)⟩) (fun H locs hM => ?_)
        refine lv_iconst (v := 1) hx hb dcX4_signatureOfPart_7 (by decide) ?_
        refine lv_isub hx hb dcX4_signatureOfPart_8 ?_
        refine lv_istore (lv' := [(4, .int (v2 - 1)), (0, .ref (u r0)), (1, .ref (u r1)), (2, .int x2), (3, .int x3)]) hx hb dcX4_signatureOfPart_9 hl (by decide) rfl (fun ls hl => ?_)
        refine lv_aload_n hx hb dcX4_signatureOfPart_11 rfl (lv_at hl 1 rfl) ?_
        refine vgX4_21 hx hb hT hown hK hM hr0 dcX4_signatureOfPart_12 ?_
        refine lv_lconst (v := 0) hx hb dcX4_signatureOfPart_15 rfl ?_
        obtain ⟨z3, hcq, hq⟩ := tw_cl0 hq
        refine uw_calv hU hM (va_runS (As := [.ref (u (r0 + 5)), .long 0]) (rest := []) ⟨hx, hb, hml, hown, hts⟩ (kc_J7_fill_d0a16 l D q vl u hU.1 K (r0 + 5) 0 (cr_X4_4 hr0) z1 z3 hcq) (va_cwS 2 hts (tw_gS wC_good xq_378 xq_26 xq_9 xq_27) rfl rfl rfl cdd_J7_fill_d0a16 ⟨(Nat.le_of_ble_eq_true rfl), (Nat.le_of_ble_eq_true rfl)⟩) (cw_preS hK hM) rfl rfl hl.1 rfl (lv_room (Nat.le_of_ble_eq_true rfl)) dcX4_signatureOfPart_16 ⟨(Nat.le_of_ble_eq_true rfl), (Nat.le_of_ble_eq_true rfl)⟩) (fun H locs hM => ?_)
        refine lv_iconst (v := 0) hx hb dcX4_signatureOfPart_19 (by decide) ?_
        refine lv_istore (lv' := [(5, .int 0), (4, .int (v2 - 1)), (0, .ref (u r0)), (1, .ref (u r1)), (2, .int x2), (3, .int x3)]) hx hb dcX4_signatureOfPart_20 hl (by decide) rfl (fun ls hl => ?_)
        refine lv_iconst (v := 0) hx hb dcX4_signatureOfPart_22 (by decide) ?_
        refine lv_istore (lv' := [(6, .int 0), (5, .int 0), (4, .int (v2 - 1)), (0, .ref (u r0)), (1, .ref (u r1)), (2, .int x2), (3, .int x3)]) hx hb dcX4_signatureOfPart_23 hl (by decide) rfl (fun ls hl => ?_)
        exact ih_1 x2 x3 (v2 - 1) 0 0 r0 r1 0 z3 H locs ls hr0 hr1 hM (lv_sub hl [3, 4, 5, 6, 2, 1, 0] rfl) hq
      · intro x2 x3 x4 x5 x6 r0 r1 t0 z H locs ls hr0 hr1 hM hl hq
        have hq : cm_X4_signatureOfPart_1 vl K (c_X4_signatureOfPart vl K k) x2 x3 x4 x5 x6 r0 r1 t0 z = some (r, z1) := hq
        unfold cm_X4_signatureOfPart_1 at hq
        refine lv_iload hx hb dcX4_signatureOfPart_25 (lv_at hl 6 rfl) ?_
        refine lv_aload_n hx hb dcX4_signatureOfPart_27 rfl (lv_at hl 1 rfl) ?_
        refine vgX4_45 hx hb hT hown hK hM hr1 hq dcX4_signatureOfPart_28 (fun v4 hq => ?_)
        refine lv_icmp_ge (tgt := 220) hx hb dcX4_signatureOfPart_31 (by decide) (fun hc => ?_) (fun hc => ?_)
        · have hq := tw_it hq hc
          refine lv_aload_n hx hb dcX4_signatureOfPart_220 rfl (lv_at hl 0 rfl) ?_
          refine lv_iload hx hb dcX4_signatureOfPart_221 (lv_at hl 4 rfl) ?_
          obtain ⟨v6, z5, hcq, hq⟩ := tw_cl1 hq
          refine uw_cali hU hM (va_runV (As := [.int x4]) (rest := []) ⟨hx, hb, hml, hown, hts⟩ (kc_X4_eigenvalueSigns l D q vl u hU.1 K r0 x4 hr0 z z5 v6 hcq) (cwV 1 hts (tw_gV wC_good xq_383 xq_384 xq_385 xq_350 xq_386) rfl rfl rfl cdd_X4_eigenvalueSigns ⟨(Nat.le_of_ble_eq_true rfl), (Nat.le_of_ble_eq_true rfl)⟩) (cw_preV hK hM (co_X4 hr0) rfl) rfl rfl hl.1 rfl (lv_room (Nat.le_of_ble_eq_true rfl)) dcX4_signatureOfPart_223 ⟨(Nat.le_of_ble_eq_true rfl), (Nat.le_of_ble_eq_true rfl)⟩) (fun H locs hM => ?_)
          refine lv_iload hx hb dcX4_signatureOfPart_226 (lv_at hl 5 rfl) ?_
          refine lv_isub hx hb dcX4_signatureOfPart_228 ?_
          exact cw_iret hx hb hr hlocks hM hq hQQ dcX4_signatureOfPart_229
        · have hq := tw_if hq hc
          refine lv_aload_n hx hb dcX4_signatureOfPart_34 rfl (lv_at hl 1 rfl) ?_
          refine vgX4_83 hx hb hT hown hK hM hr1 dcX4_signatureOfPart_35 ?_
          refine lv_iconst (v := 2) hx hb dcX4_signatureOfPart_38 (by decide) ?_
          refine lv_iload hx hb dcX4_signatureOfPart_39 (lv_at hl 6 rfl) ?_
          refine lv_imul hx hb dcX4_signatureOfPart_41 ?_
          refine uw_iald cX_ok hx hb hK hM (cr_X7_5 hr1) hq dcX4_signatureOfPart_42 (fun v7 hq => ?_)
          refine lv_iload_n hx hb dcX4_signatureOfPart_43 rfl (lv_at hl 2 rfl) ?_
          refine lv_icmp_eq (tgt := 50) hx hb dcX4_signatureOfPart_44 (by decide) (fun hc => ?_) (fun hc => ?_)
          · have hq := tw_it hq hc
            refine lv_aload_n hx hb dcX4_signatureOfPart_50 rfl (lv_at hl 1 rfl) ?_
            refine vgX4_39 hx hb hT hown hK hM hr1 dcX4_signatureOfPart_51 ?_
            refine lv_iload hx hb dcX4_signatureOfPart_54 (lv_at hl 6 rfl) ?_
            refine uw_iald cX_ok hx hb hK hM (cr_X7_2 hr1) hq dcX4_signatureOfPart_56 (fun v8 hq => ?_)
            refine lv_if_le (tgt := 67) hx hb dcX4_signatureOfPart_57 (by decide) (fun hc => ?_) (fun hc => ?_)
            · have hq := tw_it hq hc
              refine lv_iconst (v := 2) hx hb dcX4_signatureOfPart_67 (by decide) ?_
              refine lv_iload hx hb dcX4_signatureOfPart_68 (lv_at hl 6 rfl) ?_
              refine lv_imul hx hb dcX4_signatureOfPart_70 ?_
              refine lv_iconst (v := 1) hx hb dcX4_signatureOfPart_71 (by decide) ?_
              refine lv_iadd hx hb dcX4_signatureOfPart_72 ?_
              exact ih_2 x2 x3 x4 x5 x6 r0 r1 ((2 * x6) + 1) z H locs ls hr0 hr1 hM (lv_sub hl [0, 1, 2, 3, 4, 5, 6] rfl) hq
            · have hq := tw_if hq hc
              refine lv_iconst (v := 2) hx hb dcX4_signatureOfPart_60 (by decide) ?_
              refine lv_iload hx hb dcX4_signatureOfPart_61 (lv_at hl 6 rfl) ?_
              refine lv_imul hx hb dcX4_signatureOfPart_63 ?_
              refine lv_goto (tgt := 73) hx hb dcX4_signatureOfPart_64 (by decide) ?_
              exact ih_2 x2 x3 x4 x5 x6 r0 r1 (2 * x6) z H locs ls hr0 hr1 hM (lv_sub hl [0, 1, 2, 3, 4, 5, 6] rfl) hq
          · have hq := tw_if hq hc
            refine lv_goto (tgt := 214) hx hb dcX4_signatureOfPart_47 (by decide) ?_
            exact ih_3 x2 x3 x4 x5 x6 r0 r1 0 z H locs ls hr0 hr1 hM (lv_sub hl [0, 1, 2, 3, 4, 5, 6] rfl) hq
      · intro x2 x3 x4 x5 x6 r0 r1 t0 z H locs ls hr0 hr1 hM hl hq
        have hq : cm_X4_signatureOfPart_2 vl K (c_X4_signatureOfPart vl K k) x2 x3 x4 x5 x6 r0 r1 t0 z = some (r, z1) := hq
        unfold cm_X4_signatureOfPart_2 at hq
        refine lv_istore (lv' := [(7, .int t0), (0, .ref (u r0)), (1, .ref (u r1)), (2, .int x2), (3, .int x3), (4, .int x4), (5, .int x5), (6, .int x6)]) hx hb dcX4_signatureOfPart_73 hl (by decide) rfl (fun ls hl => ?_)
        refine lv_aload_n hx hb dcX4_signatureOfPart_75 rfl (lv_at hl 1 rfl) ?_
        refine vgX4_9 hx hb hT hown hK hM hr0 dcX4_signatureOfPart_76 ?_
        refine lv_iconst (v := 2) hx hb dcX4_signatureOfPart_79 (by decide) ?_
        refine lv_iload hx hb dcX4_signatureOfPart_80 (lv_at hl 0 rfl) ?_
        refine lv_imul hx hb dcX4_signatureOfPart_82 ?_
        refine uw_iald cX_ok hx hb hK hM (cr_X4_0 hr0) hq dcX4_signatureOfPart_83 (fun v9 hq => ?_)
        refine lv_istore (lv' := [(8, .int v9), (7, .int t0), (0, .ref (u r0)), (1, .ref (u r1)), (2, .int x2), (3, .int x3), (4, .int x4), (5, .int x5), (6, .int x6)]) hx hb dcX4_signatureOfPart_84 hl (by decide) rfl (fun ls hl => ?_)
        refine lv_aload_n hx hb dcX4_signatureOfPart_86 rfl (lv_at hl 2 rfl) ?_
        refine vgX4_15 hx hb hT hown hK hM hr0 dcX4_signatureOfPart_87 ?_
        refine lv_iload hx hb dcX4_signatureOfPart_90 (lv_at hl 0 rfl) ?_
        refine uw_iald cX_ok hx hb hK hM (cr_X4_2 hr0) hq dcX4_signatureOfPart_92 (fun v10 hq => ?_)
        refine lv_iload_n hx hb dcX4_signatureOfPart_93 rfl (lv_at hl 5 rfl) ?_
        refine lv_icmp_ne (tgt := 146) hx hb dcX4_signatureOfPart_94 (by decide) (fun hc => ?_) (fun hc => ?_)
        · have hq := tw_if hq hc
          refine lv_aload_n hx hb dcX4_signatureOfPart_146 rfl (lv_at hl 2 rfl) ?_
          refine vgX4_9 hx hb hT hown hK hM hr0 dcX4_signatureOfPart_147 ?_
          refine lv_iconst (v := 2) hx hb dcX4_signatureOfPart_150 (by decide) ?_
          refine lv_iload hx hb dcX4_signatureOfPart_151 (lv_at hl 1 rfl) ?_
          refine lv_imul hx hb dcX4_signatureOfPart_153 ?_
          refine lv_iconst (v := 1) hx hb dcX4_signatureOfPart_154 (by decide) ?_
          refine lv_iadd hx hb dcX4_signatureOfPart_155 ?_
          refine uw_iald cX_ok hx hb hK hM (cr_X4_0 hr0) hq dcX4_signatureOfPart_156 (fun v11 hq => ?_)
          refine lv_istore (lv' := [(9, .int v11), (8, .int v9), (7, .int t0), (0, .ref (u r0)), (1, .ref (u r1)), (2, .int x2), (3, .int x3), (4, .int x4), (5, .int x5), (6, .int x6)]) hx hb dcX4_signatureOfPart_157 hl (by decide) rfl (fun ls hl => ?_)
          refine lv_aload_n hx hb dcX4_signatureOfPart_159 rfl (lv_at hl 3 rfl) ?_
          refine vgX4_9 hx hb hT hown hK hM hr0 dcX4_signatureOfPart_160 ?_
          refine lv_iconst (v := 2) hx hb dcX4_signatureOfPart_163 (by decide) ?_
          refine lv_aload_n hx hb dcX4_signatureOfPart_164 rfl (lv_at hl 4 rfl) ?_
          refine vgX4_42 hx hb hT hown hK hM hr1 dcX4_signatureOfPart_165 ?_
          refine lv_iload hx hb dcX4_signatureOfPart_168 (lv_at hl 2 rfl) ?_
          refine uw_iald cX_ok hx hb hK hM (cr_X7_1 hr1) hq dcX4_signatureOfPart_170 (fun v12 hq => ?_)
          refine lv_imul hx hb dcX4_signatureOfPart_171 ?_
          refine uw_iald cX_ok hx hb hK hM (cr_X4_0 hr0) hq dcX4_signatureOfPart_172 (fun v13 hq => ?_)
          refine lv_istore (lv' := [(10, .int v13), (9, .int v11), (8, .int v9), (7, .int t0), (0, .ref (u r0)), (1, .ref (u r1)), (2, .int x2), (3, .int x3), (4, .int x4), (5, .int x5), (6, .int x6)]) hx hb dcX4_signatureOfPart_173 hl (by decide) rfl (fun ls hl => ?_)
          refine lv_aload_n hx hb dcX4_signatureOfPart_175 rfl (lv_at hl 4 rfl) ?_
          refine lv_aload_n hx hb dcX4_signatureOfPart_176 rfl (lv_at hl 4 rfl) ?_
          refine vgX4_18 hx hb hT hown hK hM hr0 dcX4_signatureOfPart_177 ?_
          refine lv_iload hx hb dcX4_signatureOfPart_180 (lv_at hl 1 rfl) ?_
          refine uw_iald cX_ok hx hb hK hM (cr_X4_3 hr0) hq dcX4_signatureOfPart_182 (fun v14 hq => ?_)
          refine lv_aload_n hx hb dcX4_signatureOfPart_183 rfl (lv_at hl 4 rfl) ?_
          refine vgX4_18 hx hb hT hown hK hM hr0 dcX4_signatureOfPart_184 ?_
          refine lv_iload hx hb dcX4_signatureOfPart_187 (lv_at hl 0 rfl) ?_
          refine uw_iald cX_ok hx hb hK hM (cr_X4_3 hr0) hq dcX4_signatureOfPart_189 (fun v15 hq => ?_)
          refine lv_aload_n hx hb dcX4_signatureOfPart_190 rfl (lv_at hl 5 rfl) ?_
          refine vgX4_39 hx hb hT hown hK hM hr1 dcX4_signatureOfPart_191 ?_
          refine lv_iload hx hb dcX4_signatureOfPart_194 (lv_at hl 10 rfl) ?_
          refine uw_iald cX_ok hx hb hK hM (cr_X7_2 hr1) hq dcX4_signatureOfPart_196 (fun v16 hq => ?_)
          refine lv_iload hx hb dcX4_signatureOfPart_197 (lv_at hl 8 rfl) ?_
          obtain ⟨z17, hcq, hq⟩ := tw_cl0 hq
          refine uw_calv hU hM (va_runV (As := [.int v14, .int v15, .int v16, .int x4]) (rest := []) ⟨hx, hb, hml, hown, hts⟩ (kc_X4_addAt l D q vl u hU.1 K r0 v14 v15 v16 x4 hr0 z z17 hcq) (cwV 4 hts (tw_gV wC_good xq_379 xq_380 xq_381 xq_350 xq_382) rfl rfl rfl cdd_X4_addAt ⟨(Nat.le_of_ble_eq_true rfl), (Nat.le_of_ble_eq_true rfl)⟩) (cw_preV hK hM (co_X4 hr0) rfl) rfl rfl hl.1 rfl (lv_room (Nat.le_of_ble_eq_true rfl)) dcX4_signatureOfPart_199 ⟨(Nat.le_of_ble_eq_true rfl), (Nat.le_of_ble_eq_true rfl)⟩) (fun H locs hM => ?_)
          refine lv_iload hx hb dcX4_signatureOfPart_202 (lv_at hl 9 rfl) ?_
          refine lv_aload_n hx hb dcX4_signatureOfPart_204 rfl (lv_at hl 5 rfl) ?_
          refine vgX4_39 hx hb hT hown hK hM hr1 dcX4_signatureOfPart_205 ?_
          refine lv_iload hx hb dcX4_signatureOfPart_208 (lv_at hl 10 rfl) ?_
          refine uw_iald cX_ok hx hb hK hM (cr_X7_2 hr1) hq dcX4_signatureOfPart_210 (fun v18 hq => ?_)
          refine lv_iadd hx hb dcX4_signatureOfPart_211 ?_
          refine lv_istore (lv' := [(5, .int (x5 + v18)), (10, .int v13), (9, .int v11), (8, .int v9), (7, .int t0), (0, .ref (u r0)), (1, .ref (u r1)), (2, .int x2), (3, .int x3), (4, .int x4), (6, .int x6)]) hx hb dcX4_signatureOfPart_212 hl (by decide) rfl (fun ls hl => ?_)
          exact ih_3 x2 x3 x4 (x5 + v18) x6 r0 r1 0 z17 H locs ls hr0 hr1 hM (lv_sub hl [5, 6, 7, 8, 9, 0, 10] rfl) hq
        · have hq := tw_it hq hc
          refine lv_aload_n hx hb dcX4_signatureOfPart_97 rfl (lv_at hl 2 rfl) ?_
          refine vgX4_9 hx hb hT hown hK hM hr0 dcX4_signatureOfPart_98 ?_
          refine lv_iconst (v := 2) hx hb dcX4_signatureOfPart_101 (by decide) ?_
          refine lv_aload_n hx hb dcX4_signatureOfPart_102 rfl (lv_at hl 3 rfl) ?_
          refine vgX4_42 hx hb hT hown hK hM hr1 dcX4_signatureOfPart_103 ?_
          refine lv_iload hx hb dcX4_signatureOfPart_106 (lv_at hl 1 rfl) ?_
          refine lv_iconst (v := 1) hx hb dcX4_signatureOfPart_108 (by decide) ?_
          refine lv_ixor hx hb dcX4_signatureOfPart_109 ?_
          refine uw_iald cX_ok hx hb hK hM (cr_X7_1 hr1) hq dcX4_signatureOfPart_110 (fun v19 hq => ?_)
          refine lv_imul hx hb dcX4_signatureOfPart_111 ?_
          refine uw_iald cX_ok hx hb hK hM (cr_X4_0 hr0) hq dcX4_signatureOfPart_112 (fun v20 hq => ?_)
          refine lv_istore (lv' := [(9, .int v20), (8, .int v9), (7, .int t0), (0, .ref (u r0)), (1, .ref (u r1)), (2, .int x2), (3, .int x3), (4, .int x4), (5, .int x5), (6, .int x6)]) hx hb dcX4_signatureOfPart_113 hl (by decide) rfl (fun ls hl => ?_)
          refine lv_aload_n hx hb dcX4_signatureOfPart_115 rfl (lv_at hl 3 rfl) ?_
          refine lv_aload_n hx hb dcX4_signatureOfPart_116 rfl (lv_at hl 3 rfl) ?_
          refine vgX4_18 hx hb hT hown hK hM hr0 dcX4_signatureOfPart_117 ?_
          refine lv_iload hx hb dcX4_signatureOfPart_120 (lv_at hl 1 rfl) ?_
          refine uw_iald cX_ok hx hb hK hM (cr_X4_3 hr0) hq dcX4_signatureOfPart_122 (fun v21 hq => ?_)
          refine lv_aload_n hx hb dcX4_signatureOfPart_123 rfl (lv_at hl 3 rfl) ?_
          refine vgX4_18 hx hb hT hown hK hM hr0 dcX4_signatureOfPart_124 ?_
          refine lv_iload hx hb dcX4_signatureOfPart_127 (lv_at hl 0 rfl) ?_
          refine uw_iald cX_ok hx hb hK hM (cr_X4_3 hr0) hq dcX4_signatureOfPart_129 (fun v22 hq => ?_)
          refine lv_aload_n hx hb dcX4_signatureOfPart_130 rfl (lv_at hl 4 rfl) ?_
          refine vgX4_39 hx hb hT hown hK hM hr1 dcX4_signatureOfPart_131 ?_
          refine lv_iload hx hb dcX4_signatureOfPart_134 (lv_at hl 9 rfl) ?_
          refine uw_iald cX_ok hx hb hK hM (cr_X7_2 hr1) hq dcX4_signatureOfPart_136 (fun v23 hq => ?_)
          refine lv_ineg hx hb dcX4_signatureOfPart_137 ?_
          refine lv_iload hx hb dcX4_signatureOfPart_138 (lv_at hl 7 rfl) ?_
          obtain ⟨z24, hcq, hq⟩ := tw_cl0 hq
          refine uw_calv hU hM (va_runV (As := [.int v21, .int v22, .int (-v23), .int x4]) (rest := []) ⟨hx, hb, hml, hown, hts⟩ (kc_X4_addAt l D q vl u hU.1 K r0 v21 v22 (-v23) x4 hr0 z z24 hcq) (cwV 4 hts (tw_gV wC_good xq_379 xq_380 xq_381 xq_350 xq_382) rfl rfl rfl cdd_X4_addAt ⟨(Nat.le_of_ble_eq_true rfl), (Nat.le_of_ble_eq_true rfl)⟩) (cw_preV hK hM (co_X4 hr0) rfl) rfl rfl hl.1 rfl (lv_room (Nat.le_of_ble_eq_true rfl)) dcX4_signatureOfPart_140 ⟨(Nat.le_of_ble_eq_true rfl), (Nat.le_of_ble_eq_true rfl)⟩) (fun H locs hM => ?_)
          refine lv_goto (tgt := 214) hx hb dcX4_signatureOfPart_143 (by decide) ?_
          exact ih_3 x2 x3 x4 x5 x6 r0 r1 0 z24 H locs ls hr0 hr1 hM (lv_sub hl [3, 4, 5, 6, 7, 8, 9] rfl) hq
      · intro x2 x3 x4 x5 x6 r0 r1 t0 z H locs ls hr0 hr1 hM hl hq
        have hq : cm_X4_signatureOfPart_3 vl K (c_X4_signatureOfPart vl K k) x2 x3 x4 x5 x6 r0 r1 t0 z = some (r, z1) := hq
        unfold cm_X4_signatureOfPart_3 at hq
        refine lv_iinc (v := (x6 + 1)) (lv' := [(6, .int (x6 + 1)), (0, .ref (u r0)), (1, .ref (u r1)), (2, .int x2), (3, .int x3), (4, .int x4), (5, .int x5)]) hx hb dcX4_signatureOfPart_214 hl (k := 6) rfl rfl (by decide) rfl (fun ls hl => ?_)
        refine lv_goto (tgt := 25) hx hb dcX4_signatureOfPart_217 (by decide) ?_
        exact ih_1 x2 x3 x4 x5 (x6 + 1) r0 r1 0 z H locs ls hr0 hr1 hM (lv_sub hl [1, 2, 3, 4, 5, 6, 0] rfl) hq
  exact (key K).1 x2 x3 0 0 0 r0 r1 0 z s.heap [] ls hr0 hr1 hM (lv_sub hl [0, 1, 2, 3] rfl) hq
theorem dcX4_signatureOf_0 : decode cX4_signatureOf 0 = .ok (.aload_n 1, 1) := dw_at cX4_signatureOf_k0 (p := 0) rfl (by decide +kernel)
theorem dcX4_signatureOf_1 : decode cX4_signatureOf 1 = .ok (.invokevirtual 62, 3) := dw_at cX4_signatureOf_k0 (p := 1) rfl (by decide +kernel)
theorem dcX4_signatureOf_4 : decode cX4_signatureOf 4 = .ok (.aload_n 0, 1) := dw_at cX4_signatureOf_k0 (p := 4) rfl (by decide +kernel)
theorem dcX4_signatureOf_5 : decode cX4_signatureOf 5 = .ok (.aload_n 1, 1) := dw_at cX4_signatureOf_k0 (p := 5) rfl (by decide +kernel)
theorem dcX4_signatureOf_6 : decode cX4_signatureOf 6 = .ok (.invokevirtual 65, 3) := dw_at cX4_signatureOf_k0 (p := 6) rfl (by decide +kernel)
theorem dcX4_signatureOf_9 : decode cX4_signatureOf 9 = .ok (.aload_n 0, 1) := dw_at cX4_signatureOf_k0 (p := 9) rfl (by decide +kernel)
theorem dcX4_signatureOf_10 : decode cX4_signatureOf 10 = .ok (.getfield 15, 3) := dw_at cX4_signatureOf_k0 (p := 10) rfl (by decide +kernel)
theorem dcX4_signatureOf_13 : decode cX4_signatureOf 13 = .ok (.iconst 0, 1) := dw_at cX4_signatureOf_k0 (p := 13) rfl (by decide +kernel)
theorem dcX4_signatureOf_14 : decode cX4_signatureOf 14 = .ok (.aload_n 0, 1) := dw_at cX4_signatureOf_k0 (p := 14) rfl (by decide +kernel)
theorem dcX4_signatureOf_15 : decode cX4_signatureOf 15 = .ok (.getfield 55, 3) := dw_at cX4_signatureOf_k0 (p := 15) rfl (by decide +kernel)
theorem dcX4_signatureOf_18 : decode cX4_signatureOf 18 = .ok (.iconst (-1), 1) := dw_at cX4_signatureOf_k0 (p := 18) rfl (by decide +kernel)
theorem dcX4_signatureOf_19 : decode cX4_signatureOf 19 = .ok (.invokestatic 49, 3) := dw_at cX4_signatureOf_k0 (p := 19) rfl (by decide +kernel)
theorem dcX4_signatureOf_22 : decode cX4_signatureOf 22 = .ok (.iconst 0, 1) := dw_at cX4_signatureOf_k0 (p := 22) rfl (by decide +kernel)
theorem dcX4_signatureOf_23 : decode cX4_signatureOf 23 = .ok (.istore_n 2, 1) := dw_at cX4_signatureOf_k0 (p := 23) rfl (by decide +kernel)
theorem dcX4_signatureOf_24 : decode cX4_signatureOf 24 = .ok (.iconst 0, 1) := dw_at cX4_signatureOf_k1 (p := 0) rfl (by decide +kernel)
theorem dcX4_signatureOf_25 : decode cX4_signatureOf 25 = .ok (.istore_n 3, 1) := dw_at cX4_signatureOf_k1 (p := 1) rfl (by decide +kernel)
theorem dcX4_signatureOf_26 : decode cX4_signatureOf 26 = .ok (.iload_n 3, 1) := dw_at cX4_signatureOf_k1 (p := 2) rfl (by decide +kernel)
theorem dcX4_signatureOf_27 : decode cX4_signatureOf 27 = .ok (.aload_n 1, 1) := dw_at cX4_signatureOf_k1 (p := 3) rfl (by decide +kernel)
theorem dcX4_signatureOf_28 : decode cX4_signatureOf 28 = .ok (.getfield 69, 3) := dw_at cX4_signatureOf_k1 (p := 4) rfl (by decide +kernel)
theorem dcX4_signatureOf_31 : decode cX4_signatureOf 31 = .ok (.if_icmp .ge 30, 3) := dw_at cX4_signatureOf_k1 (p := 7) rfl (by decide +kernel)
theorem dcX4_signatureOf_34 : decode cX4_signatureOf 34 = .ok (.aload_n 0, 1) := dw_at cX4_signatureOf_k1 (p := 10) rfl (by decide +kernel)
theorem dcX4_signatureOf_35 : decode cX4_signatureOf 35 = .ok (.aload_n 1, 1) := dw_at cX4_signatureOf_k1 (p := 11) rfl (by decide +kernel)
theorem dcX4_signatureOf_36 : decode cX4_signatureOf 36 = .ok (.iload_n 3, 1) := dw_at cX4_signatureOf_k1 (p := 12) rfl (by decide +kernel)
theorem dcX4_signatureOf_37 : decode cX4_signatureOf 37 = .ok (.invokevirtual 72, 3) := dw_at cX4_signatureOf_k1 (p := 13) rfl (by decide +kernel)
theorem dcX4_signatureOf_40 : decode cX4_signatureOf 40 = .ok (.iload_n 2, 1) := dw_at cX4_signatureOf_k1 (p := 16) rfl (by decide +kernel)
theorem dcX4_signatureOf_41 : decode cX4_signatureOf 41 = .ok (.aload_n 0, 1) := dw_at cX4_signatureOf_k1 (p := 17) rfl (by decide +kernel)
theorem dcX4_signatureOf_42 : decode cX4_signatureOf 42 = .ok (.aload_n 1, 1) := dw_at cX4_signatureOf_k1 (p := 18) rfl (by decide +kernel)
theorem dcX4_signatureOf_43 : decode cX4_signatureOf 43 = .ok (.iload_n 3, 1) := dw_at cX4_signatureOf_k1 (p := 19) rfl (by decide +kernel)
theorem dcX4_signatureOf_44 : decode cX4_signatureOf 44 = .ok (.aload_n 0, 1) := dw_at cX4_signatureOf_k1 (p := 20) rfl (by decide +kernel)
theorem dcX4_signatureOf_45 : decode cX4_signatureOf 45 = .ok (.aload_n 1, 1) := dw_at cX4_signatureOf_k1 (p := 21) rfl (by decide +kernel)
theorem dcX4_signatureOf_46 : decode cX4_signatureOf 46 = .ok (.iload_n 3, 1) := dw_at cX4_signatureOf_k1 (p := 22) rfl (by decide +kernel)
theorem dcX4_signatureOf_47 : decode cX4_signatureOf 47 = .ok (.invokevirtual 76, 3) := dw_at cX4_signatureOf_k1 (p := 23) rfl (by decide +kernel)
theorem dcX4_signatureOf_50 : decode cX4_signatureOf 50 = .ok (.invokevirtual 79, 3) := dw_at cX4_signatureOf_k2 (p := 0) rfl (by decide +kernel)
theorem dcX4_signatureOf_53 : decode cX4_signatureOf 53 = .ok (.iadd, 1) := dw_at cX4_signatureOf_k2 (p := 3) rfl (by decide +kernel)
theorem dcX4_signatureOf_54 : decode cX4_signatureOf 54 = .ok (.istore_n 2, 1) := dw_at cX4_signatureOf_k2 (p := 4) rfl (by decide +kernel)
theorem dcX4_signatureOf_55 : decode cX4_signatureOf 55 = .ok (.iinc 3 1, 3) := dw_at cX4_signatureOf_k2 (p := 5) rfl (by decide +kernel)
theorem dcX4_signatureOf_58 : decode cX4_signatureOf 58 = .ok (.goto (-32), 3) := dw_at cX4_signatureOf_k2 (p := 8) rfl (by decide +kernel)
theorem dcX4_signatureOf_61 : decode cX4_signatureOf 61 = .ok (.iload_n 2, 1) := dw_at cX4_signatureOf_k2 (p := 11) rfl (by decide +kernel)
theorem dcX4_signatureOf_62 : decode cX4_signatureOf 62 = .ok (.ireturn, 1) := dw_at cX4_signatureOf_k2 (p := 12) rfl (by decide +kernel)
def cm_X4_signatureOf_0 (vl : Nat → Nat) (K : Nat) (go : Nat → Int32 → Int32 → Nat → Nat → ow_MS → Option (Int32 × ow_MS)) (x2 : Int32) (x3 : Int32) (r0 : Nat) (r1 : Nat) (z : ow_MS) : Option (Int32 × ow_MS) :=
 cs0 (ce_X7_markParts vl K r1 z) fun z1 => cs0 (ce_X4_mark vl K r0 r1 z1) fun z2 => rdF z2 (r0 + 2) fun v3 => cs0 (ce_J7_fill_fda19 vl K (r0 + 3) 0 v3 (-1) z2) fun z4 => go 1 0 0 r0 r1 z4
def cm_X4_signatureOf_1 (vl : Nat → Nat) (K : Nat) (go : Nat → Int32 → Int32 → Nat → Nat → ow_MS → Option (Int32 × ow_MS)) (x2 : Int32) (x3 : Int32) (r0 : Nat) (r1 : Nat) (z : ow_MS) : Option (Int32 × ow_MS) :=
 rdF z (r1 + 11) fun v5 => (if v5 ≤ x3 then some (x2, z)
 else cs0 (ce_X4_paint vl K r0 r1 x3 z) fun z6 => cs1 (ce_X4_rarerColour vl K r0 r1 x3 z6) fun v8 z7 => cs1 (ce_X4_signatureOfPart vl K r0 r1 x3 v8 z7) fun v10 z9 => go 1 (x2 + v10) (x3 + 1) r0 r1 z9)
def cb_X4_signatureOf (vl : Nat → Nat) (K : Nat) (go : Nat → Int32 → Int32 → Nat → Nat → ow_MS → Option (Int32 × ow_MS)) (L : Nat) (x2 : Int32) (x3 : Int32) (r0 : Nat) (r1 : Nat) (z : ow_MS) : Option (Int32 × ow_MS) := match L with
  | 0 => cm_X4_signatureOf_0 vl K go x2 x3 r0 r1 z
  | 1 => cm_X4_signatureOf_1 vl K go x2 x3 r0 r1 z
  | _ => none
def c_X4_signatureOf (vl : Nat → Nat) (K : Nat) : Nat → Nat → Int32 → Int32 → Nat → Nat → ow_MS → Option (Int32 × ow_MS)
  | 0 => fun _ _ _ _ _ _ => none
  | k + 1 => cb_X4_signatureOf vl K (c_X4_signatureOf vl K k)
def ce_X4_signatureOf (vl : Nat → Nat) (K : Nat) (r0 : Nat) (r1 : Nat) (z : ow_MS) : Option (Int32 × ow_MS) := c_X4_signatureOf vl K K 0 0 0 r0 r1 z
abbrev wc_X4_signatureOf : List Cond := .code yX4_signatureOf cX4_signatureOf 4 (some .int) :: wC
theorem cdd_X4_signatureOf : yX4_signatureOf.cls = RX4 ∧ yX4_signatureOf.cls ≠ "java/lang/invoke/MethodHandle" ∧ yX4_signatureOf.cls ≠ "java/lang/invoke/VarHandle" ∧ (parseMethodDescriptor yX4_signatureOf.desc).map (fun d => d.parameters.length) = some 1 := by decide +kernel
set_option maxHeartbeats 4000000 in
set_option maxRecDepth 100000 in
theorem kc_X4_signatureOf (l : Launch) (D : va_G) (q : Nat → ClassId) (vl u : Nat → Nat) (hU0 : tw_inj (cX vl) u) (K : Nat) (r0 : Nat) (r1 : Nat) (hr0 : cw_X4 r0) (hr1 : cw_X7 r1) (z z1 : ow_MS) (r : Int32) (hq : ce_X4_signatureOf vl K r0 r1 z = some (r, z1)) : Met l yX4_signatureOf wc_X4_signatureOf ({ frames := 4, cells := 0, slots := 0, locals := 140 } : Room) (va_Pc [.ref (u r0), .ref (u r1)] (cw_pre D q vl u z)) (va_Qi (fun x (_ : Unit) => x = r) (fun _ t => va_P D vwCl (uw (cX vl) q u z1) t.heap) (tw_A (cX vl) u)) 0 0 (tw_A (cX vl) u) := by
  refine Met.ofW (cc := cX4_signatureOf) (maxL := 4) (ret := (some .int)) (by decide) rfl ?_
  intro p e s m args below meth c s₁ B hml hv
  obtain ⟨rfl, hP, hK⟩ := hv
  have hx := B.exec
  have hb := B.bytes
  have hr := B.returns
  have hts := atoms_spec (ws := wc_X4_signatureOf) B.pre
  have hT : ∀ w ∈ wC, w.before ([.ref (u r0), .ref (u r1)] : List Value).toArray s = true := fun w h => hts w (List.mem_cons_of_mem _ h)
  have hown : s.vm.findClass RX4 = some m.cls := findClass_of_methodNamed B.named
  have hlocks := B.notSynchronized
  have hU : uw_inj (cX vl) u (tw_A (cX vl) u) := ⟨hU0, fun h hh => ⟨h, hh, rfl⟩⟩
  have hM : uw_M D vwCl (cX vl) q (tw_A (cX vl) u) s.heap u z s.heap [] := ⟨hP, va_S.rf⟩
  have hl := lv_entry ([.ref (u r0), .ref (u r1)]) (n := 4) (Nat.le_of_ble_eq_true rfl)
  rw [lg_entry_eq]
  generalize (lg_sl ([.ref (u r0), .ref (u r1)]) ++ List.replicate (4 - (lg_sl ([.ref (u r0), .ref (u r1)])).length) Slot.unset).toArray = ls at hl ⊢
  have hl : lv_has ls 4 [(0, .ref (u r0)), (1, .ref (u r1))] := hl
  refine ow_named (fun QQ hQQ => ?_)
  generalize ([.ref (u r0), .ref (u r1)] : List Value).toArray = args at hts hT hQQ ⊢
  have key : ∀ k : Nat, (∀ (x2 : Int32) (x3 : Int32) (r0 : Nat) (r1 : Nat) (z : ow_MS) (H : Heap) (locs : List Loc) (ls : Array Slot), cw_X4 r0 → cw_X7 r1 → uw_M D vwCl (cX vl) q (tw_A (cX vl) u) s.heap u z H locs → lv_has ls 4 [(0, .ref (u r0)), (1, .ref (u r1))] → c_X4_signatureOf vl K k 0 x2 x3 r0 r1 z = some (r, z1) → W p l e ({ frames := 4, cells := 0, slots := 0, locals := 140 } : Room) s m args below meth c H locs 0 0 QQ (F0 m 0 ls [])) ∧ (∀ (x2 : Int32) (x3 : Int32) (r0 : Nat) (r1 : Nat) (z : ow_MS) (H : Heap) (locs : List Loc) (ls : Array Slot), cw_X4 r0 → cw_X7 r1 → uw_M D vwCl (cX vl) q (tw_A (cX vl) u) s.heap u z H locs → lv_has ls 4 [(0, .ref (u r0)), (1, .ref (u r1)), (2, .int x2), (3, .int x3)] → c_X4_signatureOf vl K k 1 x2 x3 r0 r1 z = some (r, z1) → W p l e ({ frames := 4, cells := 0, slots := 0, locals := 140 } : Room) s m args below meth c H locs 0 0 QQ (F0 m 26 ls [])) := by
    intro k
    induction k with
    | zero => exact ⟨fun _ _ _ _ _ _ _ _ _ _ _ _ hq => cw_no hq, fun _ _ _ _ _ _ _ _ _ _ _ _ hq => cw_no hq⟩
    | succ k ih =>
      obtain ⟨ih_0, ih_1⟩ := ih
      refine ⟨?_, ?_⟩
      · intro x2 x3 r0 r1 z H locs ls hr0 hr1 hM hl hq
        have hq : cm_X4_signatureOf_0 vl K (c_X4_signatureOf vl K k) x2 x3 r0 r1 z = some (r, z1) := hq
        unfold cm_X4_signatureOf_0 at hq
        refine lv_aload_n hx hb dcX4_signatureOf_0 rfl (lv_at hl 1 rfl) ?_
        obtain ⟨z1, hcq, hq⟩ := tw_cl0 hq
        refine uw_calv hU hM (va_runV (As := []) (rest := []) ⟨hx, hb, hml, hown, hts⟩ (kc_X7_markParts l D q vl u hU.1 K r1 hr1 z z1 hcq) (cwV 0 hts (tw_gV wC_good xq_353 xq_52 xq_53 xq_54 xq_55) rfl rfl rfl cdd_X7_markParts ⟨(Nat.le_of_ble_eq_true rfl), (Nat.le_of_ble_eq_true rfl)⟩) (cw_preV hK hM (co_X7 hr1) rfl) rfl rfl hl.1 rfl (lv_room (Nat.le_of_ble_eq_true rfl)) dcX4_signatureOf_1 ⟨(Nat.le_of_ble_eq_true rfl), (Nat.le_of_ble_eq_true rfl)⟩) (fun H locs hM => ?_)
        refine lv_aload_n hx hb dcX4_signatureOf_4 rfl (lv_at hl 0 rfl) ?_
        refine lv_aload_n hx hb dcX4_signatureOf_5 rfl (lv_at hl 1 rfl) ?_
        obtain ⟨z2, hcq, hq⟩ := tw_cl0 hq
        refine uw_calv hU hM (va_runV (As := [.ref (u r1)]) (rest := []) ⟨hx, hb, hml, hown, hts⟩ (kc_X4_mark l D q vl u hU.1 K r0 r1 hr0 hr1 z1 z2 hcq) (cwV 1 hts (tw_gV wC_good xq_354 xq_355 xq_356 xq_350 xq_351) rfl rfl rfl cdd_X4_mark ⟨(Nat.le_of_ble_eq_true rfl), (Nat.le_of_ble_eq_true rfl)⟩) (cw_preV hK hM (co_X4 hr0) rfl) rfl rfl hl.1 rfl (lv_room (Nat.le_of_ble_eq_true rfl)) dcX4_signatureOf_6 ⟨(Nat.le_of_ble_eq_true rfl), (Nat.le_of_ble_eq_true rfl)⟩) (fun H locs hM => ?_)
        refine lv_aload_n hx hb dcX4_signatureOf_9 rfl (lv_at hl 0 rfl) ?_
        refine vgX4_15 hx hb hT hown hK hM hr0 dcX4_signatureOf_10 ?_
        refine lv_iconst (v := 0) hx hb dcX4_signatureOf_13 (by decide) ?_
        refine lv_aload_n hx hb dcX4_signatureOf_14 rfl (lv_at hl 0 rfl) ?_
        refine vgX4_55 hx hb hT hown hK hM hr0 hq dcX4_signatureOf_15 (fun v3 hq => ?_)
        refine lv_iconst (v := (-1)) hx hb dcX4_signatureOf_18 (by decide) ?_
        obtain ⟨z4, hcq, hq⟩ := tw_cl0 hq
        refine uw_calv hU hM (va_runS (As := [.ref (u (r0 + 3)), .int 0, .int v3, .int (-1)]) (rest := []) ⟨hx, hb, hml, hown, hts⟩ (kc_J7_fill_fda19 l D q vl u hU.1 K (r0 + 3) 0 v3 (-1) (cr_X4_2 hr0) z2 z4 hcq) (va_cwS 4 hts (tw_gS wC_good xq_347 xq_62 xq_9 xq_63) rfl rfl rfl cdd_J7_fill_fda19 ⟨(Nat.le_of_ble_eq_true rfl), (Nat.le_of_ble_eq_true rfl)⟩) (cw_preS hK hM) rfl rfl hl.1 rfl (lv_room (Nat.le_of_ble_eq_true rfl)) dcX4_signatureOf_19 ⟨(Nat.le_of_ble_eq_true rfl), (Nat.le_of_ble_eq_true rfl)⟩) (fun H locs hM => ?_)
        refine lv_iconst (v := 0) hx hb dcX4_signatureOf_22 (by decide) ?_
        refine lv_istore_n (lv' := [(2, .int 0), (0, .ref (u r0)), (1, .ref (u r1))]) hx hb dcX4_signatureOf_23 rfl hl (by decide) rfl (fun ls hl => ?_)
        refine lv_iconst (v := 0) hx hb dcX4_signatureOf_24 (by decide) ?_
        refine lv_istore_n (lv' := [(3, .int 0), (2, .int 0), (0, .ref (u r0)), (1, .ref (u r1))]) hx hb dcX4_signatureOf_25 rfl hl (by decide) rfl (fun ls hl => ?_)
        exact ih_1 0 0 r0 r1 z4 H locs ls hr0 hr1 hM (lv_sub hl [2, 3, 1, 0] rfl) hq
      · intro x2 x3 r0 r1 z H locs ls hr0 hr1 hM hl hq
        have hq : cm_X4_signatureOf_1 vl K (c_X4_signatureOf vl K k) x2 x3 r0 r1 z = some (r, z1) := hq
        unfold cm_X4_signatureOf_1 at hq
        refine lv_iload_n hx hb dcX4_signatureOf_26 rfl (lv_at hl 3 rfl) ?_
        refine lv_aload_n hx hb dcX4_signatureOf_27 rfl (lv_at hl 1 rfl) ?_
        refine vgX4_69 hx hb hT hown hK hM hr1 hq dcX4_signatureOf_28 (fun v5 hq => ?_)
        refine lv_icmp_ge (tgt := 61) hx hb dcX4_signatureOf_31 (by decide) (fun hc => ?_) (fun hc => ?_)
        · have hq := tw_it hq hc
          refine lv_iload_n hx hb dcX4_signatureOf_61 rfl (lv_at hl 2 rfl) ?_
          exact cw_iret hx hb hr hlocks hM hq hQQ dcX4_signatureOf_62
        · have hq := tw_if hq hc
          refine lv_aload_n hx hb dcX4_signatureOf_34 rfl (lv_at hl 0 rfl) ?_
          refine lv_aload_n hx hb dcX4_signatureOf_35 rfl (lv_at hl 1 rfl) ?_
          refine lv_iload_n hx hb dcX4_signatureOf_36 rfl (lv_at hl 3 rfl) ?_
          obtain ⟨z6, hcq, hq⟩ := tw_cl0 hq
          refine uw_calv hU hM (va_runV (As := [.ref (u r1), .int x3]) (rest := []) ⟨hx, hb, hml, hown, hts⟩ (kc_X4_paint l D q vl u hU.1 K r0 r1 x3 hr0 hr1 z z6 hcq) (cwV 2 hts (tw_gV wC_good xq_359 xq_360 xq_361 xq_350 xq_362) rfl rfl rfl cdd_X4_paint ⟨(Nat.le_of_ble_eq_true rfl), (Nat.le_of_ble_eq_true rfl)⟩) (cw_preV hK hM (co_X4 hr0) rfl) rfl rfl hl.1 rfl (lv_room (Nat.le_of_ble_eq_true rfl)) dcX4_signatureOf_37 ⟨(Nat.le_of_ble_eq_true rfl), (Nat.le_of_ble_eq_true rfl)⟩) (fun H locs hM => ?_)
          refine lv_iload_n hx hb dcX4_signatureOf_40 rfl (lv_at hl 2 rfl) ?_
          refine lv_aload_n hx hb dcX4_signatureOf_41 rfl (lv_at hl 0 rfl) ?_
          refine lv_aload_n hx hb dcX4_signatureOf_42 rfl (lv_at hl 1 rfl) ?_
          refine lv_iload_n hx hb dcX4_signatureOf_43 rfl (lv_at hl 3 rfl) ?_
          refine lv_aload_n hx hb dcX4_signatureOf_44 rfl (lv_at hl 0 rfl) ?_
          refine lv_aload_n hx hb dcX4_signatureOf_45 rfl (lv_at hl 1 rfl) ?_
          refine lv_iload_n hx hb dcX4_signatureOf_46 rfl (lv_at hl 3 rfl) ?_
          obtain ⟨v8, z7, hcq, hq⟩ := tw_cl1 hq
          refine uw_cali hU hM (va_runV (As := [.ref (u r1), .int x3]) (rest := [.int x3, .ref (u r1), .ref (u r0), .int x2]) ⟨hx, hb, hml, hown, hts⟩ (kc_X4_rarerColour l D q vl u hU.1 K r0 r1 x3 hr0 hr1 z6 z7 v8 hcq) (cwV 2 hts (tw_gV wC_good xq_364 xq_365 xq_366 xq_350 xq_367) rfl rfl rfl cdd_X4_rarerColour ⟨(Nat.le_of_ble_eq_true rfl), (Nat.le_of_ble_eq_true rfl)⟩) (cw_preV hK hM (co_X4 hr0) rfl) rfl rfl hl.1 rfl (lv_room (Nat.le_of_ble_eq_true rfl)) dcX4_signatureOf_47 ⟨(Nat.le_of_ble_eq_true rfl), (Nat.le_of_ble_eq_true rfl)⟩) (fun H locs hM => ?_)
          obtain ⟨v10, z9, hcq, hq⟩ := tw_cl1 hq
          refine uw_cali hU hM (va_runV (As := [.ref (u r1), .int x3, .int v8]) (rest := [.int x2]) ⟨hx, hb, hml, hown, hts⟩ (kc_X4_signatureOfPart l D q vl u hU.1 K r0 r1 x3 v8 hr0 hr1 z7 z9 v10 hcq) (cwV 3 hts (tw_gV wC_good xq_373 xq_374 xq_375 xq_350 xq_376) rfl rfl rfl cdd_X4_signatureOfPart ⟨(Nat.le_of_ble_eq_true rfl), (Nat.le_of_ble_eq_true rfl)⟩) (cw_preV hK hM (co_X4 hr0) rfl) rfl rfl hl.1 rfl (lv_room (Nat.le_of_ble_eq_true rfl)) dcX4_signatureOf_50 ⟨(Nat.le_of_ble_eq_true rfl), (Nat.le_of_ble_eq_true rfl)⟩) (fun H locs hM => ?_)
          refine lv_iadd hx hb dcX4_signatureOf_53 ?_
          refine lv_istore_n (lv' := [(2, .int (x2 + v10)), (0, .ref (u r0)), (1, .ref (u r1)), (3, .int x3)]) hx hb dcX4_signatureOf_54 rfl hl (by decide) rfl (fun ls hl => ?_)
          refine lv_iinc (v := (x3 + 1)) (lv' := [(3, .int (x3 + 1)), (2, .int (x2 + v10)), (0, .ref (u r0)), (1, .ref (u r1))]) hx hb dcX4_signatureOf_55 hl (k := 3) rfl rfl (by decide) rfl (fun ls hl => ?_)
          refine lv_goto (tgt := 26) hx hb dcX4_signatureOf_58 (by decide) ?_
          exact ih_1 (x2 + v10) (x3 + 1) r0 r1 z9 H locs ls hr0 hr1 hM (lv_sub hl [2, 3, 1, 0] rfl) hq
  exact (key K).1 0 0 r0 r1 z s.heap [] ls hr0 hr1 hM (lv_sub hl [0, 1] rfl) hq
theorem dcX5_image_0 : decode cX5_image 0 = .ok (.iload_n 0, 1) := by decide +kernel
theorem dcX5_image_1 : decode cX5_image 1 = .ok (.iconst 4, 1) := by decide +kernel
theorem dcX5_image_2 : decode cX5_image 2 = .ok (.iload_n 1, 1) := by decide +kernel
theorem dcX5_image_3 : decode cX5_image 3 = .ok (.imul, 1) := by decide +kernel
theorem dcX5_image_4 : decode cX5_image 4 = .ok (.ishr, 1) := by decide +kernel
theorem dcX5_image_5 : decode cX5_image 5 = .ok (.bipush 15, 2) := by decide +kernel
theorem dcX5_image_7 : decode cX5_image 7 = .ok (.iand, 1) := by decide +kernel
theorem dcX5_image_8 : decode cX5_image 8 = .ok (.ireturn, 1) := by decide +kernel
def cm_X5_image_0 (vl : Nat → Nat) (K : Nat) (x0 : Int32) (x1 : Int32) (z : ow_MS) : Option (Int32 × ow_MS) :=
 some ((((x0 : Int32) >>> (((4 * x1) : Int32) &&& 31)) &&& 15), z)
def ce_X5_image (vl : Nat → Nat) (K : Nat) (x0 : Int32) (x1 : Int32) (z : ow_MS) : Option (Int32 × ow_MS) := cm_X5_image_0 vl K x0 x1 z
abbrev wc_X5_image : List Cond := .code yX5_image cX5_image 2 (some .int) :: wC
theorem cdd_X5_image : yX5_image.cls ≠ "java/lang/invoke/MethodHandle" ∧ yX5_image.cls ≠ "java/lang/invoke/VarHandle" ∧ (parseMethodDescriptor yX5_image.desc).map (fun d => d.parameters.length) = some 2 := by decide +kernel
set_option maxHeartbeats 4000000 in
set_option maxRecDepth 100000 in
theorem kc_X5_image (l : Launch) (D : va_G) (q : Nat → ClassId) (vl u : Nat → Nat) (hU0 : tw_inj (cX vl) u) (K : Nat) (x0 : Int32) (x1 : Int32)  (z z1 : ow_MS) (r : Int32) (hq : ce_X5_image vl K x0 x1 z = some (r, z1)) : Met l yX5_image wc_X5_image ({ frames := 0, cells := 0, slots := 0, locals := 0 } : Room) (va_Pc [.int x0, .int x1] (cw_pre D q vl u z)) (va_Qi (fun x (_ : Unit) => x = r) (fun _ t => va_P D vwCl (uw (cX vl) q u z1) t.heap) (tw_A (cX vl) u)) 0 0 (tw_A (cX vl) u) := by
  refine Met.ofW (cc := cX5_image) (maxL := 2) (ret := (some .int)) (by decide) rfl ?_
  intro p e s m args below meth c s₁ B hml hv
  obtain ⟨rfl, hP, hK⟩ := hv
  have hx := B.exec
  have hb := B.bytes
  have hr := B.returns
  have hts := atoms_spec (ws := wc_X5_image) B.pre
  have hT : ∀ w ∈ wC, w.before ([.int x0, .int x1] : List Value).toArray s = true := fun w h => hts w (List.mem_cons_of_mem _ h)
  have hown : s.vm.findClass RX5 = some m.cls := findClass_of_methodNamed B.named
  have hlocks := B.notSynchronized
  have hU : uw_inj (cX vl) u (tw_A (cX vl) u) := ⟨hU0, fun h hh => ⟨h, hh, rfl⟩⟩
  have hM : uw_M D vwCl (cX vl) q (tw_A (cX vl) u) s.heap u z s.heap [] := ⟨hP, va_S.rf⟩
  have hl := lv_entry ([.int x0, .int x1]) (n := 2) (Nat.le_of_ble_eq_true rfl)
  rw [lg_entry_eq]
  generalize (lg_sl ([.int x0, .int x1]) ++ List.replicate (2 - (lg_sl ([.int x0, .int x1])).length) Slot.unset).toArray = ls at hl ⊢
  have hl : lv_has ls 2 [(0, .int x0), (1, .int x1)] := hl
  refine ow_named (fun QQ hQQ => ?_)
  generalize ([.int x0, .int x1] : List Value).toArray = args at hts hT hQQ ⊢
  have hq : cm_X5_image_0 vl K x0 x1 z = some (r, z1) := hq
  unfold cm_X5_image_0 at hq
  suffices key : ∀ (H : Heap) (locs : List Loc), uw_M D vwCl (cX vl) q (tw_A (cX vl) u) s.heap u z H locs → W p l e ({ frames := 0, cells := 0, slots := 0, locals := 0 } : Room) s m args below meth c H locs 0 0 QQ (F0 m 0 ls []) from key s.heap [] hM
  intro H locs hM
  refine lv_iload_n hx hb dcX5_image_0 rfl (lv_at hl 0 rfl) ?_
  refine lv_iconst (v := 4) hx hb dcX5_image_1 (by decide) ?_
  refine lv_iload_n hx hb dcX5_image_2 rfl (lv_at hl 1 rfl) ?_
  refine lv_imul hx hb dcX5_image_3 ?_
  refine lv_ishr hx hb dcX5_image_4 ?_
  refine lv_bipush (v := 15) hx hb dcX5_image_5 (by decide) ?_
  refine lv_iand hx hb dcX5_image_7 ?_
  exact cw_iret hx hb hr hlocks hM hq hQQ dcX5_image_8
theorem dcX5_invert_0 : decode cX5_invert 0 = .ok (.iconst 0, 1) := by decide +kernel
theorem dcX5_invert_1 : decode cX5_invert 1 = .ok (.istore_n 2, 1) := by decide +kernel
theorem dcX5_invert_2 : decode cX5_invert 2 = .ok (.iconst 0, 1) := by decide +kernel
theorem dcX5_invert_3 : decode cX5_invert 3 = .ok (.istore_n 3, 1) := by decide +kernel
theorem dcX5_invert_4 : decode cX5_invert 4 = .ok (.iload_n 3, 1) := by decide +kernel
theorem dcX5_invert_5 : decode cX5_invert 5 = .ok (.iload_n 1, 1) := by decide +kernel
theorem dcX5_invert_6 : decode cX5_invert 6 = .ok (.if_icmp .ge 21, 3) := by decide +kernel
theorem dcX5_invert_9 : decode cX5_invert 9 = .ok (.iload_n 2, 1) := by decide +kernel
theorem dcX5_invert_10 : decode cX5_invert 10 = .ok (.iload_n 3, 1) := by decide +kernel
theorem dcX5_invert_11 : decode cX5_invert 11 = .ok (.iconst 4, 1) := by decide +kernel
theorem dcX5_invert_12 : decode cX5_invert 12 = .ok (.iload_n 0, 1) := by decide +kernel
theorem dcX5_invert_13 : decode cX5_invert 13 = .ok (.iload_n 3, 1) := by decide +kernel
theorem dcX5_invert_14 : decode cX5_invert 14 = .ok (.invokestatic 15, 3) := by decide +kernel
theorem dcX5_invert_17 : decode cX5_invert 17 = .ok (.imul, 1) := by decide +kernel
theorem dcX5_invert_18 : decode cX5_invert 18 = .ok (.ishl, 1) := by decide +kernel
theorem dcX5_invert_19 : decode cX5_invert 19 = .ok (.ior, 1) := by decide +kernel
theorem dcX5_invert_20 : decode cX5_invert 20 = .ok (.istore_n 2, 1) := by decide +kernel
theorem dcX5_invert_21 : decode cX5_invert 21 = .ok (.iinc 3 1, 3) := by decide +kernel
theorem dcX5_invert_24 : decode cX5_invert 24 = .ok (.goto (-20), 3) := by decide +kernel
theorem dcX5_invert_27 : decode cX5_invert 27 = .ok (.iload_n 2, 1) := by decide +kernel
theorem dcX5_invert_28 : decode cX5_invert 28 = .ok (.ireturn, 1) := by decide +kernel
def cm_X5_invert_0 (vl : Nat → Nat) (K : Nat) (go : Nat → Int32 → Int32 → Int32 → Int32 → ow_MS → Option (Int32 × ow_MS)) (x0 : Int32) (x1 : Int32) (x2 : Int32) (x3 : Int32) (z : ow_MS) : Option (Int32 × ow_MS) :=
 go 1 x0 x1 0 0 z
def cm_X5_invert_1 (vl : Nat → Nat) (K : Nat) (go : Nat → Int32 → Int32 → Int32 → Int32 → ow_MS → Option (Int32 × ow_MS)) (x0 : Int32) (x1 : Int32) (x2 : Int32) (x3 : Int32) (z : ow_MS) : Option (Int32 × ow_MS) :=
 (if x1 ≤ x3 then some (x2, z)
 else cs1 (ce_X5_image vl K x0 x3 z) fun v2 z1 => go 1 x0 x1 (x2 ||| ((x3 : Int32) <<< (((4 * v2) : Int32) &&& 31))) (x3 + 1) z1)
def cb_X5_invert (vl : Nat → Nat) (K : Nat) (go : Nat → Int32 → Int32 → Int32 → Int32 → ow_MS → Option (Int32 × ow_MS)) (L : Nat) (x0 : Int32) (x1 : Int32) (x2 : Int32) (x3 : Int32) (z : ow_MS) : Option (Int32 × ow_MS) := match L with
  | 0 => cm_X5_invert_0 vl K go x0 x1 x2 x3 z
  | 1 => cm_X5_invert_1 vl K go x0 x1 x2 x3 z
  | _ => none
def c_X5_invert (vl : Nat → Nat) (K : Nat) : Nat → Nat → Int32 → Int32 → Int32 → Int32 → ow_MS → Option (Int32 × ow_MS)
  | 0 => fun _ _ _ _ _ _ => none
  | k + 1 => cb_X5_invert vl K (c_X5_invert vl K k)
def ce_X5_invert (vl : Nat → Nat) (K : Nat) (x0 : Int32) (x1 : Int32) (z : ow_MS) : Option (Int32 × ow_MS) := c_X5_invert vl K K 0 x0 x1 0 0 z
abbrev wc_X5_invert : List Cond := .code yX5_invert cX5_invert 4 (some .int) :: wC
theorem cdd_X5_invert : yX5_invert.cls ≠ "java/lang/invoke/MethodHandle" ∧ yX5_invert.cls ≠ "java/lang/invoke/VarHandle" ∧ (parseMethodDescriptor yX5_invert.desc).map (fun d => d.parameters.length) = some 2 := by decide +kernel
set_option maxHeartbeats 4000000 in
set_option maxRecDepth 100000 in
theorem kc_X5_invert (l : Launch) (D : va_G) (q : Nat → ClassId) (vl u : Nat → Nat) (hU0 : tw_inj (cX vl) u) (K : Nat) (x0 : Int32) (x1 : Int32)  (z z1 : ow_MS) (r : Int32) (hq : ce_X5_invert vl K x0 x1 z = some (r, z1)) : Met l yX5_invert wc_X5_invert ({ frames := 1, cells := 0, slots := 0, locals := 21 } : Room) (va_Pc [.int x0, .int x1] (cw_pre D q vl u z)) (va_Qi (fun x (_ : Unit) => x = r) (fun _ t => va_P D vwCl (uw (cX vl) q u z1) t.heap) (tw_A (cX vl) u)) 0 0 (tw_A (cX vl) u) := by
  refine Met.ofW (cc := cX5_invert) (maxL := 4) (ret := (some .int)) (by decide) rfl ?_
  intro p e s m args below meth c s₁ B hml hv
  obtain ⟨rfl, hP, hK⟩ := hv
  have hx := B.exec
  have hb := B.bytes
  have hr := B.returns
  have hts := atoms_spec (ws := wc_X5_invert) B.pre
  have hT : ∀ w ∈ wC, w.before ([.int x0, .int x1] : List Value).toArray s = true := fun w h => hts w (List.mem_cons_of_mem _ h)
  have hown : s.vm.findClass RX5 = some m.cls := findClass_of_methodNamed B.named
  have hlocks := B.notSynchronized
  have hU : uw_inj (cX vl) u (tw_A (cX vl) u) := ⟨hU0, fun h hh => ⟨h, hh, rfl⟩⟩
  have hM : uw_M D vwCl (cX vl) q (tw_A (cX vl) u) s.heap u z s.heap [] := ⟨hP, va_S.rf⟩
  have hl := lv_entry ([.int x0, .int x1]) (n := 4) (Nat.le_of_ble_eq_true rfl)
  rw [lg_entry_eq]
  generalize (lg_sl ([.int x0, .int x1]) ++ List.replicate (4 - (lg_sl ([.int x0, .int x1])).length) Slot.unset).toArray = ls at hl ⊢
  have hl : lv_has ls 4 [(0, .int x0), (1, .int x1)] := hl
  refine ow_named (fun QQ hQQ => ?_)
  generalize ([.int x0, .int x1] : List Value).toArray = args at hts hT hQQ ⊢
  have key : ∀ k : Nat, (∀ (x0 : Int32) (x1 : Int32) (x2 : Int32) (x3 : Int32) (z : ow_MS) (H : Heap) (locs : List Loc) (ls : Array Slot), uw_M D vwCl (cX vl) q (tw_A (cX vl) u) s.heap u z H locs → lv_has ls 4 [(0, .int x0), (1, .int x1)] → c_X5_invert vl K k 0 x0 x1 x2 x3 z = some (r, z1) → W p l e ({ frames := 1, cells := 0, slots := 0, locals := 21 } : Room) s m args below meth c H locs 0 0 QQ (F0 m 0 ls [])) ∧ (∀ (x0 : Int32) (x1 : Int32) (x2 : Int32) (x3 : Int32) (z : ow_MS) (H : Heap) (locs : List Loc) (ls : Array Slot), uw_M D vwCl (cX vl) q (tw_A (cX vl) u) s.heap u z H locs → lv_has ls 4 [(0, .int x0), (1, .int x1), (2, .int x2), (3, .int x3)] → c_X5_invert vl K k 1 x0 x1 x2 x3 z = some (r, z1) → W p l e ({ frames := 1, cells := 0, slots := 0, locals := 21 } : Room) s m args below meth c H locs 0 0 QQ (F0 m 4 ls [])) := by
    intro k
    induction k with
    | zero => exact ⟨fun _ _ _ _ _ _ _ _  _ _ hq => cw_no hq, fun _ _ _ _ _ _ _ _  _ _ hq => cw_no hq⟩
    | succ k ih =>
      obtain ⟨ih_0, ih_1⟩ := ih
      refine ⟨?_, ?_⟩
      · intro x0 x1 x2 x3 z H locs ls  hM hl hq
        have hq : cm_X5_invert_0 vl K (c_X5_invert vl K k) x0 x1 x2 x3 z = some (r, z1) := hq
        unfold cm_X5_invert_0 at hq
        refine lv_iconst (v := 0) hx hb dcX5_invert_0 (by decide) ?_
        refine lv_istore_n (lv' := [(2, .int 0), (0, .int x0), (1, .int x1)]) hx hb dcX5_invert_1 rfl hl (by decide) rfl (fun ls hl => ?_)
        refine lv_iconst (v := 0) hx hb dcX5_invert_2 (by decide) ?_
        refine lv_istore_n (lv' := [(3, .int 0), (2, .int 0), (0, .int x0), (1, .int x1)]) hx hb dcX5_invert_3 rfl hl (by decide) rfl (fun ls hl => ?_)
        exact ih_1 x0 x1 0 0 z H locs ls hM (lv_sub hl [2, 3, 1, 0] rfl) hq
      · intro x0 x1 x2 x3 z H locs ls  hM hl hq
        have hq : cm_X5_invert_1 vl K (c_X5_invert vl K k) x0 x1 x2 x3 z = some (r, z1) := hq
        unfold cm_X5_invert_1 at hq
        refine lv_iload_n hx hb dcX5_invert_4 rfl (lv_at hl 3 rfl) ?_
        refine lv_iload_n hx hb dcX5_invert_5 rfl (lv_at hl 1 rfl) ?_
        refine lv_icmp_ge (tgt := 27) hx hb dcX5_invert_6 (by decide) (fun hc => ?_) (fun hc => ?_)
        · have hq := tw_it hq hc
          refine lv_iload_n hx hb dcX5_invert_27 rfl (lv_at hl 2 rfl) ?_
          exact cw_iret hx hb hr hlocks hM hq hQQ dcX5_invert_28
        · have hq := tw_if hq hc
          refine lv_iload_n hx hb dcX5_invert_9 rfl (lv_at hl 2 rfl) ?_
          refine lv_iload_n hx hb dcX5_invert_10 rfl (lv_at hl 3 rfl) ?_
          refine lv_iconst (v := 4) hx hb dcX5_invert_11 (by decide) ?_
          refine lv_iload_n hx hb dcX5_invert_12 rfl (lv_at hl 0 rfl) ?_
          refine lv_iload_n hx hb dcX5_invert_13 rfl (lv_at hl 3 rfl) ?_
          obtain ⟨v2, z1, hcq, hq⟩ := tw_cl1 hq
          refine uw_cali hU hM (va_runS (As := [.int x0, .int x3]) (rest := [.int 4, .int x3, .int x2]) ⟨hx, hb, hml, hown, hts⟩ (kc_X5_image l D q vl u hU.1 K x0 x3 z z1 v2 hcq) (va_cwS 2 hts (tw_gS wC_good xq_401 xq_402 xq_403 xq_400) rfl rfl rfl cdd_X5_image ⟨(Nat.le_of_ble_eq_true rfl), (Nat.le_of_ble_eq_true rfl)⟩) (cw_preS hK hM) rfl rfl hl.1 rfl (lv_room (Nat.le_of_ble_eq_true rfl)) dcX5_invert_14 ⟨(Nat.le_of_ble_eq_true rfl), (Nat.le_of_ble_eq_true rfl)⟩) (fun H locs hM => ?_)
          refine lv_imul hx hb dcX5_invert_17 ?_
          refine lv_ishl hx hb dcX5_invert_18 ?_
          refine lv_ior hx hb dcX5_invert_19 ?_
          refine lv_istore_n (lv' := [(2, .int (x2 ||| ((x3 : Int32) <<< (((4 * v2) : Int32) &&& 31)))), (0, .int x0), (1, .int x1), (3, .int x3)]) hx hb dcX5_invert_20 rfl hl (by decide) rfl (fun ls hl => ?_)
          refine lv_iinc (v := (x3 + 1)) (lv' := [(3, .int (x3 + 1)), (2, .int (x2 ||| ((x3 : Int32) <<< (((4 * v2) : Int32) &&& 31)))), (0, .int x0), (1, .int x1)]) hx hb dcX5_invert_21 hl (k := 3) rfl rfl (by decide) rfl (fun ls hl => ?_)
          refine lv_goto (tgt := 4) hx hb dcX5_invert_24 (by decide) ?_
          exact ih_1 x0 x1 (x2 ||| ((x3 : Int32) <<< (((4 * v2) : Int32) &&& 31))) (x3 + 1) z1 H locs ls hM (lv_sub hl [2, 3, 1, 0] rfl) hq
  exact (key K).1 x0 x1 0 0 z s.heap [] ls  hM (lv_sub hl [0, 1] rfl) hq
theorem dcX5_identityOf_0 : decode cX5_identityOf 0 = .ok (.iconst 0, 1) := by decide +kernel
theorem dcX5_identityOf_1 : decode cX5_identityOf 1 = .ok (.istore_n 1, 1) := by decide +kernel
theorem dcX5_identityOf_2 : decode cX5_identityOf 2 = .ok (.iconst 0, 1) := by decide +kernel
theorem dcX5_identityOf_3 : decode cX5_identityOf 3 = .ok (.istore_n 2, 1) := by decide +kernel
theorem dcX5_identityOf_4 : decode cX5_identityOf 4 = .ok (.iload_n 2, 1) := by decide +kernel
theorem dcX5_identityOf_5 : decode cX5_identityOf 5 = .ok (.iload_n 0, 1) := by decide +kernel
theorem dcX5_identityOf_6 : decode cX5_identityOf 6 = .ok (.if_icmp .ge 17, 3) := by decide +kernel
theorem dcX5_identityOf_9 : decode cX5_identityOf 9 = .ok (.iload_n 1, 1) := by decide +kernel
theorem dcX5_identityOf_10 : decode cX5_identityOf 10 = .ok (.iload_n 2, 1) := by decide +kernel
theorem dcX5_identityOf_11 : decode cX5_identityOf 11 = .ok (.iconst 4, 1) := by decide +kernel
theorem dcX5_identityOf_12 : decode cX5_identityOf 12 = .ok (.iload_n 2, 1) := by decide +kernel
theorem dcX5_identityOf_13 : decode cX5_identityOf 13 = .ok (.imul, 1) := by decide +kernel
theorem dcX5_identityOf_14 : decode cX5_identityOf 14 = .ok (.ishl, 1) := by decide +kernel
theorem dcX5_identityOf_15 : decode cX5_identityOf 15 = .ok (.ior, 1) := by decide +kernel
theorem dcX5_identityOf_16 : decode cX5_identityOf 16 = .ok (.istore_n 1, 1) := by decide +kernel
theorem dcX5_identityOf_17 : decode cX5_identityOf 17 = .ok (.iinc 2 1, 3) := by decide +kernel
theorem dcX5_identityOf_20 : decode cX5_identityOf 20 = .ok (.goto (-16), 3) := by decide +kernel
theorem dcX5_identityOf_23 : decode cX5_identityOf 23 = .ok (.iload_n 1, 1) := by decide +kernel
theorem dcX5_identityOf_24 : decode cX5_identityOf 24 = .ok (.ireturn, 1) := by decide +kernel
def cm_X5_identityOf_0 (vl : Nat → Nat) (K : Nat) (go : Nat → Int32 → Int32 → Int32 → ow_MS → Option (Int32 × ow_MS)) (x0 : Int32) (x1 : Int32) (x2 : Int32) (z : ow_MS) : Option (Int32 × ow_MS) :=
 go 1 x0 0 0 z
def cm_X5_identityOf_1 (vl : Nat → Nat) (K : Nat) (go : Nat → Int32 → Int32 → Int32 → ow_MS → Option (Int32 × ow_MS)) (x0 : Int32) (x1 : Int32) (x2 : Int32) (z : ow_MS) : Option (Int32 × ow_MS) :=
 (if x0 ≤ x2 then some (x1, z)
 else go 1 x0 (x1 ||| ((x2 : Int32) <<< (((4 * x2) : Int32) &&& 31))) (x2 + 1) z)
def cb_X5_identityOf (vl : Nat → Nat) (K : Nat) (go : Nat → Int32 → Int32 → Int32 → ow_MS → Option (Int32 × ow_MS)) (L : Nat) (x0 : Int32) (x1 : Int32) (x2 : Int32) (z : ow_MS) : Option (Int32 × ow_MS) := match L with
  | 0 => cm_X5_identityOf_0 vl K go x0 x1 x2 z
  | 1 => cm_X5_identityOf_1 vl K go x0 x1 x2 z
  | _ => none
def c_X5_identityOf (vl : Nat → Nat) (K : Nat) : Nat → Nat → Int32 → Int32 → Int32 → ow_MS → Option (Int32 × ow_MS)
  | 0 => fun _ _ _ _ _ => none
  | k + 1 => cb_X5_identityOf vl K (c_X5_identityOf vl K k)
def ce_X5_identityOf (vl : Nat → Nat) (K : Nat) (x0 : Int32) (z : ow_MS) : Option (Int32 × ow_MS) := c_X5_identityOf vl K K 0 x0 0 0 z
abbrev wc_X5_identityOf : List Cond := .code yX5_identityOf cX5_identityOf 3 (some .int) :: wC
theorem cdd_X5_identityOf : yX5_identityOf.cls ≠ "java/lang/invoke/MethodHandle" ∧ yX5_identityOf.cls ≠ "java/lang/invoke/VarHandle" ∧ (parseMethodDescriptor yX5_identityOf.desc).map (fun d => d.parameters.length) = some 1 := by decide +kernel
set_option maxHeartbeats 4000000 in
set_option maxRecDepth 100000 in
theorem kc_X5_identityOf (l : Launch) (D : va_G) (q : Nat → ClassId) (vl u : Nat → Nat) (hU0 : tw_inj (cX vl) u) (K : Nat) (x0 : Int32)  (z z1 : ow_MS) (r : Int32) (hq : ce_X5_identityOf vl K x0 z = some (r, z1)) : Met l yX5_identityOf wc_X5_identityOf ({ frames := 0, cells := 0, slots := 0, locals := 0 } : Room) (va_Pc [.int x0] (cw_pre D q vl u z)) (va_Qi (fun x (_ : Unit) => x = r) (fun _ t => va_P D vwCl (uw (cX vl) q u z1) t.heap) (tw_A (cX vl) u)) 0 0 (tw_A (cX vl) u) := by
  refine Met.ofW (cc := cX5_identityOf) (maxL := 3) (ret := (some .int)) (by decide) rfl ?_
  intro p e s m args below meth c s₁ B hml hv
  obtain ⟨rfl, hP, hK⟩ := hv
  have hx := B.exec
  have hb := B.bytes
  have hr := B.returns
  have hts := atoms_spec (ws := wc_X5_identityOf) B.pre
  have hT : ∀ w ∈ wC, w.before ([.int x0] : List Value).toArray s = true := fun w h => hts w (List.mem_cons_of_mem _ h)
  have hown : s.vm.findClass RX5 = some m.cls := findClass_of_methodNamed B.named
  have hlocks := B.notSynchronized
  have hU : uw_inj (cX vl) u (tw_A (cX vl) u) := ⟨hU0, fun h hh => ⟨h, hh, rfl⟩⟩
  have hM : uw_M D vwCl (cX vl) q (tw_A (cX vl) u) s.heap u z s.heap [] := ⟨hP, va_S.rf⟩
  have hl := lv_entry ([.int x0]) (n := 3) (Nat.le_of_ble_eq_true rfl)
  rw [lg_entry_eq]
  generalize (lg_sl ([.int x0]) ++ List.replicate (3 - (lg_sl ([.int x0])).length) Slot.unset).toArray = ls at hl ⊢
  have hl : lv_has ls 3 [(0, .int x0)] := hl
  refine ow_named (fun QQ hQQ => ?_)
  generalize ([.int x0] : List Value).toArray = args at hts hT hQQ ⊢
  have key : ∀ k : Nat, (∀ (x0 : Int32) (x1 : Int32) (x2 : Int32) (z : ow_MS) (H : Heap) (locs : List Loc) (ls : Array Slot), uw_M D vwCl (cX vl) q (tw_A (cX vl) u) s.heap u z H locs → lv_has ls 3 [(0, .int x0)] → c_X5_identityOf vl K k 0 x0 x1 x2 z = some (r, z1) → W p l e ({ frames := 0, cells := 0, slots := 0, locals := 0 } : Room) s m args below meth c H locs 0 0 QQ (F0 m 0 ls [])) ∧ (∀ (x0 : Int32) (x1 : Int32) (x2 : Int32) (z : ow_MS) (H : Heap) (locs : List Loc) (ls : Array Slot), uw_M D vwCl (cX vl) q (tw_A (cX vl) u) s.heap u z H locs → lv_has ls 3 [(0, .int x0), (1, .int x1), (2, .int x2)] → c_X5_identityOf vl K k 1 x0 x1 x2 z = some (r, z1) → W p l e ({ frames := 0, cells := 0, slots := 0, locals := 0 } : Room) s m args below meth c H locs 0 0 QQ (F0 m 4 ls [])) := by
    intro k
    induction k with
    | zero => exact ⟨fun _ _ _ _ _ _ _  _ _ hq => cw_no hq, fun _ _ _ _ _ _ _  _ _ hq => cw_no hq⟩
    | succ k ih =>
      obtain ⟨ih_0, ih_1⟩ := ih
      refine ⟨?_, ?_⟩
      · intro x0 x1 x2 z H locs ls  hM hl hq
        have hq : cm_X5_identityOf_0 vl K (c_X5_identityOf vl K k) x0 x1 x2 z = some (r, z1) := hq
        unfold cm_X5_identityOf_0 at hq
        refine lv_iconst (v := 0) hx hb dcX5_identityOf_0 (by decide) ?_
        refine lv_istore_n (lv' := [(1, .int 0), (0, .int x0)]) hx hb dcX5_identityOf_1 rfl hl (by decide) rfl (fun ls hl => ?_)
        refine lv_iconst (v := 0) hx hb dcX5_identityOf_2 (by decide) ?_
        refine lv_istore_n (lv' := [(2, .int 0), (1, .int 0), (0, .int x0)]) hx hb dcX5_identityOf_3 rfl hl (by decide) rfl (fun ls hl => ?_)
        exact ih_1 x0 0 0 z H locs ls hM (lv_sub hl [2, 1, 0] rfl) hq
      · intro x0 x1 x2 z H locs ls  hM hl hq
        have hq : cm_X5_identityOf_1 vl K (c_X5_identityOf vl K k) x0 x1 x2 z = some (r, z1) := hq
        unfold cm_X5_identityOf_1 at hq
        refine lv_iload_n hx hb dcX5_identityOf_4 rfl (lv_at hl 2 rfl) ?_
        refine lv_iload_n hx hb dcX5_identityOf_5 rfl (lv_at hl 0 rfl) ?_
        refine lv_icmp_ge (tgt := 23) hx hb dcX5_identityOf_6 (by decide) (fun hc => ?_) (fun hc => ?_)
        · have hq := tw_it hq hc
          refine lv_iload_n hx hb dcX5_identityOf_23 rfl (lv_at hl 1 rfl) ?_
          exact cw_iret hx hb hr hlocks hM hq hQQ dcX5_identityOf_24
        · have hq := tw_if hq hc
          refine lv_iload_n hx hb dcX5_identityOf_9 rfl (lv_at hl 1 rfl) ?_
          refine lv_iload_n hx hb dcX5_identityOf_10 rfl (lv_at hl 2 rfl) ?_
          refine lv_iconst (v := 4) hx hb dcX5_identityOf_11 (by decide) ?_
          refine lv_iload_n hx hb dcX5_identityOf_12 rfl (lv_at hl 2 rfl) ?_
          refine lv_imul hx hb dcX5_identityOf_13 ?_
          refine lv_ishl hx hb dcX5_identityOf_14 ?_
          refine lv_ior hx hb dcX5_identityOf_15 ?_
          refine lv_istore_n (lv' := [(1, .int (x1 ||| ((x2 : Int32) <<< (((4 * x2) : Int32) &&& 31)))), (0, .int x0), (2, .int x2)]) hx hb dcX5_identityOf_16 rfl hl (by decide) rfl (fun ls hl => ?_)
          refine lv_iinc (v := (x2 + 1)) (lv' := [(2, .int (x2 + 1)), (1, .int (x1 ||| ((x2 : Int32) <<< (((4 * x2) : Int32) &&& 31)))), (0, .int x0)]) hx hb dcX5_identityOf_17 hl (k := 2) rfl rfl (by decide) rfl (fun ls hl => ?_)
          refine lv_goto (tgt := 4) hx hb dcX5_identityOf_20 (by decide) ?_
          exact ih_1 x0 (x1 ||| ((x2 : Int32) <<< (((4 * x2) : Int32) &&& 31))) (x2 + 1) z H locs ls hM (lv_sub hl [2, 1, 0] rfl) hq
  exact (key K).1 x0 0 0 z s.heap [] ls  hM (lv_sub hl [0] rfl) hq
theorem dcX5_deltaOf_0 : decode cX5_deltaOf 0 = .ok (.iconst 0, 1) := by decide +kernel
theorem dcX5_deltaOf_1 : decode cX5_deltaOf 1 = .ok (.istore_n 1, 1) := by decide +kernel
theorem dcX5_deltaOf_2 : decode cX5_deltaOf 2 = .ok (.iconst 0, 1) := by decide +kernel
theorem dcX5_deltaOf_3 : decode cX5_deltaOf 3 = .ok (.istore_n 2, 1) := by decide +kernel
theorem dcX5_deltaOf_4 : decode cX5_deltaOf 4 = .ok (.iload_n 2, 1) := by decide +kernel
theorem dcX5_deltaOf_5 : decode cX5_deltaOf 5 = .ok (.iload_n 0, 1) := by decide +kernel
theorem dcX5_deltaOf_6 : decode cX5_deltaOf 6 = .ok (.if_icmp .ge 21, 3) := by decide +kernel
theorem dcX5_deltaOf_9 : decode cX5_deltaOf 9 = .ok (.iload_n 1, 1) := by decide +kernel
theorem dcX5_deltaOf_10 : decode cX5_deltaOf 10 = .ok (.iload_n 0, 1) := by decide +kernel
theorem dcX5_deltaOf_11 : decode cX5_deltaOf 11 = .ok (.iconst 1, 1) := by decide +kernel
theorem dcX5_deltaOf_12 : decode cX5_deltaOf 12 = .ok (.isub, 1) := by decide +kernel
theorem dcX5_deltaOf_13 : decode cX5_deltaOf 13 = .ok (.iload_n 2, 1) := by decide +kernel
theorem dcX5_deltaOf_14 : decode cX5_deltaOf 14 = .ok (.isub, 1) := by decide +kernel
theorem dcX5_deltaOf_15 : decode cX5_deltaOf 15 = .ok (.iconst 4, 1) := by decide +kernel
theorem dcX5_deltaOf_16 : decode cX5_deltaOf 16 = .ok (.iload_n 2, 1) := by decide +kernel
theorem dcX5_deltaOf_17 : decode cX5_deltaOf 17 = .ok (.imul, 1) := by decide +kernel
theorem dcX5_deltaOf_18 : decode cX5_deltaOf 18 = .ok (.ishl, 1) := by decide +kernel
theorem dcX5_deltaOf_19 : decode cX5_deltaOf 19 = .ok (.ior, 1) := by decide +kernel
theorem dcX5_deltaOf_20 : decode cX5_deltaOf 20 = .ok (.istore_n 1, 1) := by decide +kernel
theorem dcX5_deltaOf_21 : decode cX5_deltaOf 21 = .ok (.iinc 2 1, 3) := by decide +kernel
theorem dcX5_deltaOf_24 : decode cX5_deltaOf 24 = .ok (.goto (-20), 3) := by decide +kernel
theorem dcX5_deltaOf_27 : decode cX5_deltaOf 27 = .ok (.iload_n 1, 1) := by decide +kernel
theorem dcX5_deltaOf_28 : decode cX5_deltaOf 28 = .ok (.ireturn, 1) := by decide +kernel
def cm_X5_deltaOf_0 (vl : Nat → Nat) (K : Nat) (go : Nat → Int32 → Int32 → Int32 → ow_MS → Option (Int32 × ow_MS)) (x0 : Int32) (x1 : Int32) (x2 : Int32) (z : ow_MS) : Option (Int32 × ow_MS) :=
 go 1 x0 0 0 z
def cm_X5_deltaOf_1 (vl : Nat → Nat) (K : Nat) (go : Nat → Int32 → Int32 → Int32 → ow_MS → Option (Int32 × ow_MS)) (x0 : Int32) (x1 : Int32) (x2 : Int32) (z : ow_MS) : Option (Int32 × ow_MS) :=
 (if x0 ≤ x2 then some (x1, z)
 else go 1 x0 (x1 ||| ((((x0 - 1) - x2) : Int32) <<< (((4 * x2) : Int32) &&& 31))) (x2 + 1) z)
def cb_X5_deltaOf (vl : Nat → Nat) (K : Nat) (go : Nat → Int32 → Int32 → Int32 → ow_MS → Option (Int32 × ow_MS)) (L : Nat) (x0 : Int32) (x1 : Int32) (x2 : Int32) (z : ow_MS) : Option (Int32 × ow_MS) := match L with
  | 0 => cm_X5_deltaOf_0 vl K go x0 x1 x2 z
  | 1 => cm_X5_deltaOf_1 vl K go x0 x1 x2 z
  | _ => none
def c_X5_deltaOf (vl : Nat → Nat) (K : Nat) : Nat → Nat → Int32 → Int32 → Int32 → ow_MS → Option (Int32 × ow_MS)
  | 0 => fun _ _ _ _ _ => none
  | k + 1 => cb_X5_deltaOf vl K (c_X5_deltaOf vl K k)
def ce_X5_deltaOf (vl : Nat → Nat) (K : Nat) (x0 : Int32) (z : ow_MS) : Option (Int32 × ow_MS) := c_X5_deltaOf vl K K 0 x0 0 0 z
abbrev wc_X5_deltaOf : List Cond := .code yX5_deltaOf cX5_deltaOf 3 (some .int) :: wC
theorem cdd_X5_deltaOf : yX5_deltaOf.cls ≠ "java/lang/invoke/MethodHandle" ∧ yX5_deltaOf.cls ≠ "java/lang/invoke/VarHandle" ∧ (parseMethodDescriptor yX5_deltaOf.desc).map (fun d => d.parameters.length) = some 1 := by decide +kernel
set_option maxHeartbeats 4000000 in
set_option maxRecDepth 100000 in
theorem kc_X5_deltaOf (l : Launch) (D : va_G) (q : Nat → ClassId) (vl u : Nat → Nat) (hU0 : tw_inj (cX vl) u) (K : Nat) (x0 : Int32)  (z z1 : ow_MS) (r : Int32) (hq : ce_X5_deltaOf vl K x0 z = some (r, z1)) : Met l yX5_deltaOf wc_X5_deltaOf ({ frames := 0, cells := 0, slots := 0, locals := 0 } : Room) (va_Pc [.int x0] (cw_pre D q vl u z)) (va_Qi (fun x (_ : Unit) => x = r) (fun _ t => va_P D vwCl (uw (cX vl) q u z1) t.heap) (tw_A (cX vl) u)) 0 0 (tw_A (cX vl) u) := by
  refine Met.ofW (cc := cX5_deltaOf) (maxL := 3) (ret := (some .int)) (by decide) rfl ?_
  intro p e s m args below meth c s₁ B hml hv
  obtain ⟨rfl, hP, hK⟩ := hv
  have hx := B.exec
  have hb := B.bytes
  have hr := B.returns
  have hts := atoms_spec (ws := wc_X5_deltaOf) B.pre
  have hT : ∀ w ∈ wC, w.before ([.int x0] : List Value).toArray s = true := fun w h => hts w (List.mem_cons_of_mem _ h)
  have hown : s.vm.findClass RX5 = some m.cls := findClass_of_methodNamed B.named
  have hlocks := B.notSynchronized
  have hU : uw_inj (cX vl) u (tw_A (cX vl) u) := ⟨hU0, fun h hh => ⟨h, hh, rfl⟩⟩
  have hM : uw_M D vwCl (cX vl) q (tw_A (cX vl) u) s.heap u z s.heap [] := ⟨hP, va_S.rf⟩
  have hl := lv_entry ([.int x0]) (n := 3) (Nat.le_of_ble_eq_true rfl)
  rw [lg_entry_eq]
  generalize (lg_sl ([.int x0]) ++ List.replicate (3 - (lg_sl ([.int x0])).length) Slot.unset).toArray = ls at hl ⊢
  have hl : lv_has ls 3 [(0, .int x0)] := hl
  refine ow_named (fun QQ hQQ => ?_)
  generalize ([.int x0] : List Value).toArray = args at hts hT hQQ ⊢
  have key : ∀ k : Nat, (∀ (x0 : Int32) (x1 : Int32) (x2 : Int32) (z : ow_MS) (H : Heap) (locs : List Loc) (ls : Array Slot), uw_M D vwCl (cX vl) q (tw_A (cX vl) u) s.heap u z H locs → lv_has ls 3 [(0, .int x0)] → c_X5_deltaOf vl K k 0 x0 x1 x2 z = some (r, z1) → W p l e ({ frames := 0, cells := 0, slots := 0, locals := 0 } : Room) s m args below meth c H locs 0 0 QQ (F0 m 0 ls [])) ∧ (∀ (x0 : Int32) (x1 : Int32) (x2 : Int32) (z : ow_MS) (H : Heap) (locs : List Loc) (ls : Array Slot), uw_M D vwCl (cX vl) q (tw_A (cX vl) u) s.heap u z H locs → lv_has ls 3 [(0, .int x0), (1, .int x1), (2, .int x2)] → c_X5_deltaOf vl K k 1 x0 x1 x2 z = some (r, z1) → W p l e ({ frames := 0, cells := 0, slots := 0, locals := 0 } : Room) s m args below meth c H locs 0 0 QQ (F0 m 4 ls [])) := by
    intro k
    induction k with
    | zero => exact ⟨fun _ _ _ _ _ _ _  _ _ hq => cw_no hq, fun _ _ _ _ _ _ _  _ _ hq => cw_no hq⟩
    | succ k ih =>
      obtain ⟨ih_0, ih_1⟩ := ih
      refine ⟨?_, ?_⟩
      · intro x0 x1 x2 z H locs ls  hM hl hq
        have hq : cm_X5_deltaOf_0 vl K (c_X5_deltaOf vl K k) x0 x1 x2 z = some (r, z1) := hq
        unfold cm_X5_deltaOf_0 at hq
        refine lv_iconst (v := 0) hx hb dcX5_deltaOf_0 (by decide) ?_
        refine lv_istore_n (lv' := [(1, .int 0), (0, .int x0)]) hx hb dcX5_deltaOf_1 rfl hl (by decide) rfl (fun ls hl => ?_)
        refine lv_iconst (v := 0) hx hb dcX5_deltaOf_2 (by decide) ?_
        refine lv_istore_n (lv' := [(2, .int 0), (1, .int 0), (0, .int x0)]) hx hb dcX5_deltaOf_3 rfl hl (by decide) rfl (fun ls hl => ?_)
        exact ih_1 x0 0 0 z H locs ls hM (lv_sub hl [2, 1, 0] rfl) hq
      · intro x0 x1 x2 z H locs ls  hM hl hq
        have hq : cm_X5_deltaOf_1 vl K (c_X5_deltaOf vl K k) x0 x1 x2 z = some (r, z1) := hq
        unfold cm_X5_deltaOf_1 at hq
        refine lv_iload_n hx hb dcX5_deltaOf_4 rfl (lv_at hl 2 rfl) ?_
        refine lv_iload_n hx hb dcX5_deltaOf_5 rfl (lv_at hl 0 rfl) ?_
        refine lv_icmp_ge (tgt := 27) hx hb dcX5_deltaOf_6 (by decide) (fun hc => ?_) (fun hc => ?_)
        · have hq := tw_it hq hc
          refine lv_iload_n hx hb dcX5_deltaOf_27 rfl (lv_at hl 1 rfl) ?_
          exact cw_iret hx hb hr hlocks hM hq hQQ dcX5_deltaOf_28
        · have hq := tw_if hq hc
          refine lv_iload_n hx hb dcX5_deltaOf_9 rfl (lv_at hl 1 rfl) ?_
          refine lv_iload_n hx hb dcX5_deltaOf_10 rfl (lv_at hl 0 rfl) ?_
          refine lv_iconst (v := 1) hx hb dcX5_deltaOf_11 (by decide) ?_
          refine lv_isub hx hb dcX5_deltaOf_12 ?_
          refine lv_iload_n hx hb dcX5_deltaOf_13 rfl (lv_at hl 2 rfl) ?_
          refine lv_isub hx hb dcX5_deltaOf_14 ?_
          refine lv_iconst (v := 4) hx hb dcX5_deltaOf_15 (by decide) ?_
          refine lv_iload_n hx hb dcX5_deltaOf_16 rfl (lv_at hl 2 rfl) ?_
          refine lv_imul hx hb dcX5_deltaOf_17 ?_
          refine lv_ishl hx hb dcX5_deltaOf_18 ?_
          refine lv_ior hx hb dcX5_deltaOf_19 ?_
          refine lv_istore_n (lv' := [(1, .int (x1 ||| ((((x0 - 1) - x2) : Int32) <<< (((4 * x2) : Int32) &&& 31)))), (0, .int x0), (2, .int x2)]) hx hb dcX5_deltaOf_20 rfl hl (by decide) rfl (fun ls hl => ?_)
          refine lv_iinc (v := (x2 + 1)) (lv' := [(2, .int (x2 + 1)), (1, .int (x1 ||| ((((x0 - 1) - x2) : Int32) <<< (((4 * x2) : Int32) &&& 31)))), (0, .int x0)]) hx hb dcX5_deltaOf_21 hl (k := 2) rfl rfl (by decide) rfl (fun ls hl => ?_)
          refine lv_goto (tgt := 4) hx hb dcX5_deltaOf_24 (by decide) ?_
          exact ih_1 x0 (x1 ||| ((((x0 - 1) - x2) : Int32) <<< (((4 * x2) : Int32) &&& 31))) (x2 + 1) z H locs ls hM (lv_sub hl [2, 1, 0] rfl) hq
  exact (key K).1 x0 0 0 z s.heap [] ls  hM (lv_sub hl [0] rfl) hq
theorem dcX5_turned_0 : decode cX5_turned 0 = .ok (.iconst 0, 1) := by decide +kernel
theorem dcX5_turned_1 : decode cX5_turned 1 = .ok (.istore_n 2, 1) := by decide +kernel
theorem dcX5_turned_2 : decode cX5_turned 2 = .ok (.iconst 0, 1) := by decide +kernel
theorem dcX5_turned_3 : decode cX5_turned 3 = .ok (.istore_n 3, 1) := by decide +kernel
theorem dcX5_turned_4 : decode cX5_turned 4 = .ok (.iload_n 3, 1) := by decide +kernel
theorem dcX5_turned_5 : decode cX5_turned 5 = .ok (.iload_n 1, 1) := by decide +kernel
theorem dcX5_turned_6 : decode cX5_turned 6 = .ok (.if_icmp .ge 29, 3) := by decide +kernel
theorem dcX5_turned_9 : decode cX5_turned 9 = .ok (.iload_n 2, 1) := by decide +kernel
theorem dcX5_turned_10 : decode cX5_turned 10 = .ok (.iload_n 1, 1) := by decide +kernel
theorem dcX5_turned_11 : decode cX5_turned 11 = .ok (.iconst 1, 1) := by decide +kernel
theorem dcX5_turned_12 : decode cX5_turned 12 = .ok (.isub, 1) := by decide +kernel
theorem dcX5_turned_13 : decode cX5_turned 13 = .ok (.iload_n 0, 1) := by decide +kernel
theorem dcX5_turned_14 : decode cX5_turned 14 = .ok (.iload_n 1, 1) := by decide +kernel
theorem dcX5_turned_15 : decode cX5_turned 15 = .ok (.iconst 1, 1) := by decide +kernel
theorem dcX5_turned_16 : decode cX5_turned 16 = .ok (.isub, 1) := by decide +kernel
theorem dcX5_turned_17 : decode cX5_turned 17 = .ok (.iload_n 3, 1) := by decide +kernel
theorem dcX5_turned_18 : decode cX5_turned 18 = .ok (.isub, 1) := by decide +kernel
theorem dcX5_turned_19 : decode cX5_turned 19 = .ok (.invokestatic 15, 3) := by decide +kernel
theorem dcX5_turned_22 : decode cX5_turned 22 = .ok (.isub, 1) := by decide +kernel
theorem dcX5_turned_23 : decode cX5_turned 23 = .ok (.iconst 4, 1) := by decide +kernel
theorem dcX5_turned_24 : decode cX5_turned 24 = .ok (.iload_n 3, 1) := by decide +kernel
theorem dcX5_turned_25 : decode cX5_turned 25 = .ok (.imul, 1) := by decide +kernel
theorem dcX5_turned_26 : decode cX5_turned 26 = .ok (.ishl, 1) := by decide +kernel
theorem dcX5_turned_27 : decode cX5_turned 27 = .ok (.ior, 1) := by decide +kernel
theorem dcX5_turned_28 : decode cX5_turned 28 = .ok (.istore_n 2, 1) := by decide +kernel
theorem dcX5_turned_29 : decode cX5_turned 29 = .ok (.iinc 3 1, 3) := by decide +kernel
theorem dcX5_turned_32 : decode cX5_turned 32 = .ok (.goto (-28), 3) := by decide +kernel
theorem dcX5_turned_35 : decode cX5_turned 35 = .ok (.iload_n 2, 1) := by decide +kernel
theorem dcX5_turned_36 : decode cX5_turned 36 = .ok (.ireturn, 1) := by decide +kernel
def cm_X5_turned_0 (vl : Nat → Nat) (K : Nat) (go : Nat → Int32 → Int32 → Int32 → Int32 → ow_MS → Option (Int32 × ow_MS)) (x0 : Int32) (x1 : Int32) (x2 : Int32) (x3 : Int32) (z : ow_MS) : Option (Int32 × ow_MS) :=
 go 1 x0 x1 0 0 z
def cm_X5_turned_1 (vl : Nat → Nat) (K : Nat) (go : Nat → Int32 → Int32 → Int32 → Int32 → ow_MS → Option (Int32 × ow_MS)) (x0 : Int32) (x1 : Int32) (x2 : Int32) (x3 : Int32) (z : ow_MS) : Option (Int32 × ow_MS) :=
 (if x1 ≤ x3 then some (x2, z)
 else cs1 (ce_X5_image vl K x0 ((x1 - 1) - x3) z) fun v2 z1 => go 1 x0 x1 (x2 ||| ((((x1 - 1) - v2) : Int32) <<< (((4 * x3) : Int32) &&& 31))) (x3 + 1) z1)
def cb_X5_turned (vl : Nat → Nat) (K : Nat) (go : Nat → Int32 → Int32 → Int32 → Int32 → ow_MS → Option (Int32 × ow_MS)) (L : Nat) (x0 : Int32) (x1 : Int32) (x2 : Int32) (x3 : Int32) (z : ow_MS) : Option (Int32 × ow_MS) := match L with
  | 0 => cm_X5_turned_0 vl K go x0 x1 x2 x3 z
  | 1 => cm_X5_turned_1 vl K go x0 x1 x2 x3 z
  | _ => none
def c_X5_turned (vl : Nat → Nat) (K : Nat) : Nat → Nat → Int32 → Int32 → Int32 → Int32 → ow_MS → Option (Int32 × ow_MS)
  | 0 => fun _ _ _ _ _ _ => none
  | k + 1 => cb_X5_turned vl K (c_X5_turned vl K k)
def ce_X5_turned (vl : Nat → Nat) (K : Nat) (x0 : Int32) (x1 : Int32) (z : ow_MS) : Option (Int32 × ow_MS) := c_X5_turned vl K K 0 x0 x1 0 0 z
abbrev wc_X5_turned : List Cond := .code yX5_turned cX5_turned 4 (some .int) :: wC
theorem cdd_X5_turned : yX5_turned.cls ≠ "java/lang/invoke/MethodHandle" ∧ yX5_turned.cls ≠ "java/lang/invoke/VarHandle" ∧ (parseMethodDescriptor yX5_turned.desc).map (fun d => d.parameters.length) = some 2 := by decide +kernel
set_option maxHeartbeats 4000000 in
set_option maxRecDepth 100000 in
theorem kc_X5_turned (l : Launch) (D : va_G) (q : Nat → ClassId) (vl u : Nat → Nat) (hU0 : tw_inj (cX vl) u) (K : Nat) (x0 : Int32) (x1 : Int32)  (z z1 : ow_MS) (r : Int32) (hq : ce_X5_turned vl K x0 x1 z = some (r, z1)) : Met l yX5_turned wc_X5_turned ({ frames := 1, cells := 0, slots := 0, locals := 21 } : Room) (va_Pc [.int x0, .int x1] (cw_pre D q vl u z)) (va_Qi (fun x (_ : Unit) => x = r) (fun _ t => va_P D vwCl (uw (cX vl) q u z1) t.heap) (tw_A (cX vl) u)) 0 0 (tw_A (cX vl) u) := by
  refine Met.ofW (cc := cX5_turned) (maxL := 4) (ret := (some .int)) (by decide) rfl ?_
  intro p e s m args below meth c s₁ B hml hv
  obtain ⟨rfl, hP, hK⟩ := hv
  have hx := B.exec
  have hb := B.bytes
  have hr := B.returns
  have hts := atoms_spec (ws := wc_X5_turned) B.pre
  have hT : ∀ w ∈ wC, w.before ([.int x0, .int x1] : List Value).toArray s = true := fun w h => hts w (List.mem_cons_of_mem _ h)
  have hown : s.vm.findClass RX5 = some m.cls := findClass_of_methodNamed B.named
  have hlocks := B.notSynchronized
  have hU : uw_inj (cX vl) u (tw_A (cX vl) u) := ⟨hU0, fun h hh => ⟨h, hh, rfl⟩⟩
  have hM : uw_M D vwCl (cX vl) q (tw_A (cX vl) u) s.heap u z s.heap [] := ⟨hP, va_S.rf⟩
  have hl := lv_entry ([.int x0, .int x1]) (n := 4) (Nat.le_of_ble_eq_true rfl)
  rw [lg_entry_eq]
  generalize (lg_sl ([.int x0, .int x1]) ++ List.replicate (4 - (lg_sl ([.int x0, .int x1])).length) Slot.unset).toArray = ls at hl ⊢
  have hl : lv_has ls 4 [(0, .int x0), (1, .int x1)] := hl
  refine ow_named (fun QQ hQQ => ?_)
  generalize ([.int x0, .int x1] : List Value).toArray = args at hts hT hQQ ⊢
  have key : ∀ k : Nat, (∀ (x0 : Int32) (x1 : Int32) (x2 : Int32) (x3 : Int32) (z : ow_MS) (H : Heap) (locs : List Loc) (ls : Array Slot), uw_M D vwCl (cX vl) q (tw_A (cX vl) u) s.heap u z H locs → lv_has ls 4 [(0, .int x0), (1, .int x1)] → c_X5_turned vl K k 0 x0 x1 x2 x3 z = some (r, z1) → W p l e ({ frames := 1, cells := 0, slots := 0, locals := 21 } : Room) s m args below meth c H locs 0 0 QQ (F0 m 0 ls [])) ∧ (∀ (x0 : Int32) (x1 : Int32) (x2 : Int32) (x3 : Int32) (z : ow_MS) (H : Heap) (locs : List Loc) (ls : Array Slot), uw_M D vwCl (cX vl) q (tw_A (cX vl) u) s.heap u z H locs → lv_has ls 4 [(0, .int x0), (1, .int x1), (2, .int x2), (3, .int x3)] → c_X5_turned vl K k 1 x0 x1 x2 x3 z = some (r, z1) → W p l e ({ frames := 1, cells := 0, slots := 0, locals := 21 } : Room) s m args below meth c H locs 0 0 QQ (F0 m 4 ls [])) := by
    intro k
    induction k with
    | zero => exact ⟨fun _ _ _ _ _ _ _ _  _ _ hq => cw_no hq, fun _ _ _ _ _ _ _ _  _ _ hq => cw_no hq⟩
    | succ k ih =>
      obtain ⟨ih_0, ih_1⟩ := ih
      refine ⟨?_, ?_⟩
      · intro x0 x1 x2 x3 z H locs ls  hM hl hq
        have hq : cm_X5_turned_0 vl K (c_X5_turned vl K k) x0 x1 x2 x3 z = some (r, z1) := hq
        unfold cm_X5_turned_0 at hq
        refine lv_iconst (v := 0) hx hb dcX5_turned_0 (by decide) ?_
        refine lv_istore_n (lv' := [(2, .int 0), (0, .int x0), (1, .int x1)]) hx hb dcX5_turned_1 rfl hl (by decide) rfl (fun ls hl => ?_)
        refine lv_iconst (v := 0) hx hb dcX5_turned_2 (by decide) ?_
        refine lv_istore_n (lv' := [(3, .int 0), (2, .int 0), (0, .int x0), (1, .int x1)]) hx hb dcX5_turned_3 rfl hl (by decide) rfl (fun ls hl => ?_)
        exact ih_1 x0 x1 0 0 z H locs ls hM (lv_sub hl [2, 3, 1, 0] rfl) hq
      · intro x0 x1 x2 x3 z H locs ls  hM hl hq
        have hq : cm_X5_turned_1 vl K (c_X5_turned vl K k) x0 x1 x2 x3 z = some (r, z1) := hq
        unfold cm_X5_turned_1 at hq
        refine lv_iload_n hx hb dcX5_turned_4 rfl (lv_at hl 3 rfl) ?_
        refine lv_iload_n hx hb dcX5_turned_5 rfl (lv_at hl 1 rfl) ?_
        refine lv_icmp_ge (tgt := 35) hx hb dcX5_turned_6 (by decide) (fun hc => ?_) (fun hc => ?_)
        · have hq := tw_it hq hc
          refine lv_iload_n hx hb dcX5_turned_35 rfl (lv_at hl 2 rfl) ?_
          exact cw_iret hx hb hr hlocks hM hq hQQ dcX5_turned_36
        · have hq := tw_if hq hc
          refine lv_iload_n hx hb dcX5_turned_9 rfl (lv_at hl 2 rfl) ?_
          refine lv_iload_n hx hb dcX5_turned_10 rfl (lv_at hl 1 rfl) ?_
          refine lv_iconst (v := 1) hx hb dcX5_turned_11 (by decide) ?_
          refine lv_isub hx hb dcX5_turned_12 ?_
          refine lv_iload_n hx hb dcX5_turned_13 rfl (lv_at hl 0 rfl) ?_
          refine lv_iload_n hx hb dcX5_turned_14 rfl (lv_at hl 1 rfl) ?_
          refine lv_iconst (v := 1) hx hb dcX5_turned_15 (by decide) ?_
          refine lv_isub hx hb dcX5_turned_16 ?_
          refine lv_iload_n hx hb dcX5_turned_17 rfl (lv_at hl 3 rfl) ?_
          refine lv_isub hx hb dcX5_turned_18 ?_
          obtain ⟨v2, z1, hcq, hq⟩ := tw_cl1 hq
          refine uw_cali hU hM (va_runS (As := [.int x0, .int ((x1 - 1) - x3)]) (rest := [.int (x1 - 1), .int x2]) ⟨hx, hb, hml, hown, hts⟩ (kc_X5_image l D q vl u hU.1 K x0 ((x1 - 1) - x3) z z1 v2 hcq) (va_cwS 2 hts (tw_gS wC_good xq_401 xq_402 xq_403 xq_400) rfl rfl rfl cdd_X5_image ⟨(Nat.le_of_ble_eq_true rfl), (Nat.le_of_ble_eq_true rfl)⟩) (cw_preS hK hM) rfl rfl hl.1 rfl (lv_room (Nat.le_of_ble_eq_true rfl)) dcX5_turned_19 ⟨(Nat.le_of_ble_eq_true rfl), (Nat.le_of_ble_eq_true rfl)⟩) (fun H locs hM => ?_)
          refine lv_isub hx hb dcX5_turned_22 ?_
          refine lv_iconst (v := 4) hx hb dcX5_turned_23 (by decide) ?_
          refine lv_iload_n hx hb dcX5_turned_24 rfl (lv_at hl 3 rfl) ?_
          refine lv_imul hx hb dcX5_turned_25 ?_
          refine lv_ishl hx hb dcX5_turned_26 ?_
          refine lv_ior hx hb dcX5_turned_27 ?_
          refine lv_istore_n (lv' := [(2, .int (x2 ||| ((((x1 - 1) - v2) : Int32) <<< (((4 * x3) : Int32) &&& 31)))), (0, .int x0), (1, .int x1), (3, .int x3)]) hx hb dcX5_turned_28 rfl hl (by decide) rfl (fun ls hl => ?_)
          refine lv_iinc (v := (x3 + 1)) (lv' := [(3, .int (x3 + 1)), (2, .int (x2 ||| ((((x1 - 1) - v2) : Int32) <<< (((4 * x3) : Int32) &&& 31)))), (0, .int x0), (1, .int x1)]) hx hb dcX5_turned_29 hl (k := 3) rfl rfl (by decide) rfl (fun ls hl => ?_)
          refine lv_goto (tgt := 4) hx hb dcX5_turned_32 (by decide) ?_
          exact ih_1 x0 x1 (x2 ||| ((((x1 - 1) - v2) : Int32) <<< (((4 * x3) : Int32) &&& 31))) (x3 + 1) z1 H locs ls hM (lv_sub hl [2, 3, 1, 0] rfl) hq
  exact (key K).1 x0 x1 0 0 z s.heap [] ls  hM (lv_sub hl [0, 1] rfl) hq
theorem dcX5_exchanged_0 : decode cX5_exchanged 0 = .ok (.iload_n 0, 1) := by decide +kernel
theorem dcX5_exchanged_1 : decode cX5_exchanged 1 = .ok (.iload_n 1, 1) := by decide +kernel
theorem dcX5_exchanged_2 : decode cX5_exchanged 2 = .ok (.invokestatic 15, 3) := by decide +kernel
theorem dcX5_exchanged_5 : decode cX5_exchanged 5 = .ok (.iload_n 0, 1) := by decide +kernel
theorem dcX5_exchanged_6 : decode cX5_exchanged 6 = .ok (.iload_n 1, 1) := by decide +kernel
theorem dcX5_exchanged_7 : decode cX5_exchanged 7 = .ok (.iconst 1, 1) := by decide +kernel
theorem dcX5_exchanged_8 : decode cX5_exchanged 8 = .ok (.iadd, 1) := by decide +kernel
theorem dcX5_exchanged_9 : decode cX5_exchanged 9 = .ok (.invokestatic 15, 3) := by decide +kernel
theorem dcX5_exchanged_12 : decode cX5_exchanged 12 = .ok (.ixor, 1) := by decide +kernel
theorem dcX5_exchanged_13 : decode cX5_exchanged 13 = .ok (.istore_n 2, 1) := by decide +kernel
theorem dcX5_exchanged_14 : decode cX5_exchanged 14 = .ok (.iload_n 0, 1) := by decide +kernel
theorem dcX5_exchanged_15 : decode cX5_exchanged 15 = .ok (.iload_n 2, 1) := by decide +kernel
theorem dcX5_exchanged_16 : decode cX5_exchanged 16 = .ok (.iconst 4, 1) := by decide +kernel
theorem dcX5_exchanged_17 : decode cX5_exchanged 17 = .ok (.iload_n 1, 1) := by decide +kernel
theorem dcX5_exchanged_18 : decode cX5_exchanged 18 = .ok (.imul, 1) := by decide +kernel
theorem dcX5_exchanged_19 : decode cX5_exchanged 19 = .ok (.ishl, 1) := by decide +kernel
theorem dcX5_exchanged_20 : decode cX5_exchanged 20 = .ok (.ixor, 1) := by decide +kernel
theorem dcX5_exchanged_21 : decode cX5_exchanged 21 = .ok (.iload_n 2, 1) := by decide +kernel
theorem dcX5_exchanged_22 : decode cX5_exchanged 22 = .ok (.iconst 4, 1) := by decide +kernel
theorem dcX5_exchanged_23 : decode cX5_exchanged 23 = .ok (.iload_n 1, 1) := by decide +kernel
theorem dcX5_exchanged_24 : decode cX5_exchanged 24 = .ok (.iconst 1, 1) := by decide +kernel
theorem dcX5_exchanged_25 : decode cX5_exchanged 25 = .ok (.iadd, 1) := by decide +kernel
theorem dcX5_exchanged_26 : decode cX5_exchanged 26 = .ok (.imul, 1) := by decide +kernel
theorem dcX5_exchanged_27 : decode cX5_exchanged 27 = .ok (.ishl, 1) := by decide +kernel
theorem dcX5_exchanged_28 : decode cX5_exchanged 28 = .ok (.ixor, 1) := by decide +kernel
theorem dcX5_exchanged_29 : decode cX5_exchanged 29 = .ok (.ireturn, 1) := by decide +kernel
def cm_X5_exchanged_0 (vl : Nat → Nat) (K : Nat) (x0 : Int32) (x1 : Int32) (z : ow_MS) : Option (Int32 × ow_MS) :=
 cs1 (ce_X5_image vl K x0 x1 z) fun v2 z1 => cs1 (ce_X5_image vl K x0 (x1 + 1) z1) fun v4 z3 => some (((x0 ^^^ (((v2 ^^^ v4) : Int32) <<< (((4 * x1) : Int32) &&& 31))) ^^^ (((v2 ^^^ v4) : Int32) <<< (((4 * (x1 + 1)) : Int32) &&& 31))), z3)
def ce_X5_exchanged (vl : Nat → Nat) (K : Nat) (x0 : Int32) (x1 : Int32) (z : ow_MS) : Option (Int32 × ow_MS) := cm_X5_exchanged_0 vl K x0 x1 z
abbrev wc_X5_exchanged : List Cond := .code yX5_exchanged cX5_exchanged 3 (some .int) :: wC
theorem cdd_X5_exchanged : yX5_exchanged.cls ≠ "java/lang/invoke/MethodHandle" ∧ yX5_exchanged.cls ≠ "java/lang/invoke/VarHandle" ∧ (parseMethodDescriptor yX5_exchanged.desc).map (fun d => d.parameters.length) = some 2 := by decide +kernel
set_option maxHeartbeats 4000000 in
set_option maxRecDepth 100000 in
theorem kc_X5_exchanged (l : Launch) (D : va_G) (q : Nat → ClassId) (vl u : Nat → Nat) (hU0 : tw_inj (cX vl) u) (K : Nat) (x0 : Int32) (x1 : Int32)  (z z1 : ow_MS) (r : Int32) (hq : ce_X5_exchanged vl K x0 x1 z = some (r, z1)) : Met l yX5_exchanged wc_X5_exchanged ({ frames := 1, cells := 0, slots := 0, locals := 21 } : Room) (va_Pc [.int x0, .int x1] (cw_pre D q vl u z)) (va_Qi (fun x (_ : Unit) => x = r) (fun _ t => va_P D vwCl (uw (cX vl) q u z1) t.heap) (tw_A (cX vl) u)) 0 0 (tw_A (cX vl) u) := by
  refine Met.ofW (cc := cX5_exchanged) (maxL := 3) (ret := (some .int)) (by decide) rfl ?_
  intro p e s m args below meth c s₁ B hml hv
  obtain ⟨rfl, hP, hK⟩ := hv
  have hx := B.exec
  have hb := B.bytes
  have hr := B.returns
  have hts := atoms_spec (ws := wc_X5_exchanged) B.pre
  have hT : ∀ w ∈ wC, w.before ([.int x0, .int x1] : List Value).toArray s = true := fun w h => hts w (List.mem_cons_of_mem _ h)
  have hown : s.vm.findClass RX5 = some m.cls := findClass_of_methodNamed B.named
  have hlocks := B.notSynchronized
  have hU : uw_inj (cX vl) u (tw_A (cX vl) u) := ⟨hU0, fun h hh => ⟨h, hh, rfl⟩⟩
  have hM : uw_M D vwCl (cX vl) q (tw_A (cX vl) u) s.heap u z s.heap [] := ⟨hP, va_S.rf⟩
  have hl := lv_entry ([.int x0, .int x1]) (n := 3) (Nat.le_of_ble_eq_true rfl)
  rw [lg_entry_eq]
  generalize (lg_sl ([.int x0, .int x1]) ++ List.replicate (3 - (lg_sl ([.int x0, .int x1])).length) Slot.unset).toArray = ls at hl ⊢
  have hl : lv_has ls 3 [(0, .int x0), (1, .int x1)] := hl
  refine ow_named (fun QQ hQQ => ?_)
  generalize ([.int x0, .int x1] : List Value).toArray = args at hts hT hQQ ⊢
  have hq : cm_X5_exchanged_0 vl K x0 x1 z = some (r, z1) := hq
  unfold cm_X5_exchanged_0 at hq
  suffices key : ∀ (H : Heap) (locs : List Loc), uw_M D vwCl (cX vl) q (tw_A (cX vl) u) s.heap u z H locs → W p l e ({ frames := 1, cells := 0, slots := 0, locals := 21 } : Room) s m args below meth c H locs 0 0 QQ (F0 m 0 ls []) from key s.heap [] hM
  intro H locs hM
  refine lv_iload_n hx hb dcX5_exchanged_0 rfl (lv_at hl 0 rfl) ?_
  refine lv_iload_n hx hb dcX5_exchanged_1 rfl (lv_at hl 1 rfl) ?_
  obtain ⟨v2, z1, hcq, hq⟩ := tw_cl1 hq
  refine uw_cali hU hM (va_runS (As := [.int x0, .int x1]) (rest := []) ⟨hx, hb, hml, hown, hts⟩ (kc_X5_image l D q vl u hU.1 K x0 x1 z z1 v2 hcq) (va_cwS 2 hts (tw_gS wC_good xq_401 xq_402 xq_403 xq_400) rfl rfl rfl cdd_X5_image ⟨(Nat.le_of_ble_eq_true rfl), (Nat.le_of_ble_eq_true rfl)⟩) (cw_preS hK hM) rfl rfl hl.1 rfl (lv_room (Nat.le_of_ble_eq_true rfl)) dcX5_exchanged_2 ⟨(Nat.le_of_ble_eq_true rfl), (Nat.le_of_ble_eq_true rfl)⟩) (fun H locs hM => ?_)
  refine lv_iload_n hx hb dcX5_exchanged_5 rfl (lv_at hl 0 rfl) ?_
  refine lv_iload_n hx hb dcX5_exchanged_6 rfl (lv_at hl 1 rfl) ?_
  refine lv_iconst (v := 1) hx hb dcX5_exchanged_7 (by decide) ?_
  refine lv_iadd hx hb dcX5_exchanged_8 ?_
  obtain ⟨v4, z3, hcq, hq⟩ := tw_cl1 hq
  refine uw_cali hU hM (va_runS (As := [.int x0, .int (x1 + 1)]) (rest := [.int v2]) ⟨hx, hb, hml, hown, hts⟩ (kc_X5_image l D q vl u hU.1 K x0 (x1 + 1) z1 z3 v4 hcq) (va_cwS 2 hts (tw_gS wC_good xq_401 xq_402 xq_403 xq_400) rfl rfl rfl cdd_X5_image ⟨(Nat.le_of_ble_eq_true rfl), (Nat.le_of_ble_eq_true rfl)⟩) (cw_preS hK hM) rfl rfl hl.1 rfl (lv_room (Nat.le_of_ble_eq_true rfl)) dcX5_exchanged_9 ⟨(Nat.le_of_ble_eq_true rfl), (Nat.le_of_ble_eq_true rfl)⟩) (fun H locs hM => ?_)
  refine lv_ixor hx hb dcX5_exchanged_12 ?_
  refine lv_istore_n (lv' := [(2, .int (v2 ^^^ v4)), (0, .int x0), (1, .int x1)]) hx hb dcX5_exchanged_13 rfl hl (by decide) rfl (fun ls hl => ?_)
  refine lv_iload_n hx hb dcX5_exchanged_14 rfl (lv_at hl 1 rfl) ?_
  refine lv_iload_n hx hb dcX5_exchanged_15 rfl (lv_at hl 0 rfl) ?_
  refine lv_iconst (v := 4) hx hb dcX5_exchanged_16 (by decide) ?_
  refine lv_iload_n hx hb dcX5_exchanged_17 rfl (lv_at hl 2 rfl) ?_
  refine lv_imul hx hb dcX5_exchanged_18 ?_
  refine lv_ishl hx hb dcX5_exchanged_19 ?_
  refine lv_ixor hx hb dcX5_exchanged_20 ?_
  refine lv_iload_n hx hb dcX5_exchanged_21 rfl (lv_at hl 0 rfl) ?_
  refine lv_iconst (v := 4) hx hb dcX5_exchanged_22 (by decide) ?_
  refine lv_iload_n hx hb dcX5_exchanged_23 rfl (lv_at hl 2 rfl) ?_
  refine lv_iconst (v := 1) hx hb dcX5_exchanged_24 (by decide) ?_
  refine lv_iadd hx hb dcX5_exchanged_25 ?_
  refine lv_imul hx hb dcX5_exchanged_26 ?_
  refine lv_ishl hx hb dcX5_exchanged_27 ?_
  refine lv_ixor hx hb dcX5_exchanged_28 ?_
  exact cw_iret hx hb hr hlocks hM hq hQQ dcX5_exchanged_29
theorem dcX5_exchangedBehind_0 : decode cX5_exchangedBehind 0 = .ok (.iload_n 0, 1) := by decide +kernel
theorem dcX5_exchangedBehind_1 : decode cX5_exchangedBehind 1 = .ok (.iload_n 2, 1) := by decide +kernel
theorem dcX5_exchangedBehind_2 : decode cX5_exchangedBehind 2 = .ok (.invokestatic 19, 3) := by decide +kernel
theorem dcX5_exchangedBehind_5 : decode cX5_exchangedBehind 5 = .ok (.iload_n 1, 1) := by decide +kernel
theorem dcX5_exchangedBehind_6 : decode cX5_exchangedBehind 6 = .ok (.invokestatic 22, 3) := by decide +kernel
theorem dcX5_exchangedBehind_9 : decode cX5_exchangedBehind 9 = .ok (.iload_n 2, 1) := by decide +kernel
theorem dcX5_exchangedBehind_10 : decode cX5_exchangedBehind 10 = .ok (.invokestatic 19, 3) := by decide +kernel
theorem dcX5_exchangedBehind_13 : decode cX5_exchangedBehind 13 = .ok (.ireturn, 1) := by decide +kernel
def cm_X5_exchangedBehind_0 (vl : Nat → Nat) (K : Nat) (x0 : Int32) (x1 : Int32) (x2 : Int32) (z : ow_MS) : Option (Int32 × ow_MS) :=
 cs1 (ce_X5_invert vl K x0 x2 z) fun v2 z1 => cs1 (ce_X5_exchanged vl K v2 x1 z1) fun v4 z3 => cs1 (ce_X5_invert vl K v4 x2 z3) fun v6 z5 => some (v6, z5)
def ce_X5_exchangedBehind (vl : Nat → Nat) (K : Nat) (x0 : Int32) (x1 : Int32) (x2 : Int32) (z : ow_MS) : Option (Int32 × ow_MS) := cm_X5_exchangedBehind_0 vl K x0 x1 x2 z
abbrev wc_X5_exchangedBehind : List Cond := .code yX5_exchangedBehind cX5_exchangedBehind 3 (some .int) :: wC
theorem cdd_X5_exchangedBehind : yX5_exchangedBehind.cls ≠ "java/lang/invoke/MethodHandle" ∧ yX5_exchangedBehind.cls ≠ "java/lang/invoke/VarHandle" ∧ (parseMethodDescriptor yX5_exchangedBehind.desc).map (fun d => d.parameters.length) = some 3 := by decide +kernel
set_option maxHeartbeats 4000000 in
set_option maxRecDepth 100000 in
theorem kc_X5_exchangedBehind (l : Launch) (D : va_G) (q : Nat → ClassId) (vl u : Nat → Nat) (hU0 : tw_inj (cX vl) u) (K : Nat) (x0 : Int32) (x1 : Int32) (x2 : Int32)  (z z1 : ow_MS) (r : Int32) (hq : ce_X5_exchangedBehind vl K x0 x1 x2 z = some (r, z1)) : Met l yX5_exchangedBehind wc_X5_exchangedBehind ({ frames := 2, cells := 0, slots := 0, locals := 44 } : Room) (va_Pc [.int x0, .int x1, .int x2] (cw_pre D q vl u z)) (va_Qi (fun x (_ : Unit) => x = r) (fun _ t => va_P D vwCl (uw (cX vl) q u z1) t.heap) (tw_A (cX vl) u)) 0 0 (tw_A (cX vl) u) := by
  refine Met.ofW (cc := cX5_exchangedBehind) (maxL := 3) (ret := (some .int)) (by decide) rfl ?_
  intro p e s m args below meth c s₁ B hml hv
  obtain ⟨rfl, hP, hK⟩ := hv
  have hx := B.exec
  have hb := B.bytes
  have hr := B.returns
  have hts := atoms_spec (ws := wc_X5_exchangedBehind) B.pre
  have hT : ∀ w ∈ wC, w.before ([.int x0, .int x1, .int x2] : List Value).toArray s = true := fun w h => hts w (List.mem_cons_of_mem _ h)
  have hown : s.vm.findClass RX5 = some m.cls := findClass_of_methodNamed B.named
  have hlocks := B.notSynchronized
  have hU : uw_inj (cX vl) u (tw_A (cX vl) u) := ⟨hU0, fun h hh => ⟨h, hh, rfl⟩⟩
  have hM : uw_M D vwCl (cX vl) q (tw_A (cX vl) u) s.heap u z s.heap [] := ⟨hP, va_S.rf⟩
  have hl := lv_entry ([.int x0, .int x1, .int x2]) (n := 3) (Nat.le_of_ble_eq_true rfl)
  rw [lg_entry_eq]
  generalize (lg_sl ([.int x0, .int x1, .int x2]) ++ List.replicate (3 - (lg_sl ([.int x0, .int x1, .int x2])).length) Slot.unset).toArray = ls at hl ⊢
  have hl : lv_has ls 3 [(0, .int x0), (1, .int x1), (2, .int x2)] := hl
  refine ow_named (fun QQ hQQ => ?_)
  generalize ([.int x0, .int x1, .int x2] : List Value).toArray = args at hts hT hQQ ⊢
  have hq : cm_X5_exchangedBehind_0 vl K x0 x1 x2 z = some (r, z1) := hq
  unfold cm_X5_exchangedBehind_0 at hq
  suffices key : ∀ (H : Heap) (locs : List Loc), uw_M D vwCl (cX vl) q (tw_A (cX vl) u) s.heap u z H locs → W p l e ({ frames := 2, cells := 0, slots := 0, locals := 44 } : Room) s m args below meth c H locs 0 0 QQ (F0 m 0 ls []) from key s.heap [] hM
  intro H locs hM
  refine lv_iload_n hx hb dcX5_exchangedBehind_0 rfl (lv_at hl 0 rfl) ?_
  refine lv_iload_n hx hb dcX5_exchangedBehind_1 rfl (lv_at hl 2 rfl) ?_
  obtain ⟨v2, z1, hcq, hq⟩ := tw_cl1 hq
  refine uw_cali hU hM (va_runS (As := [.int x0, .int x2]) (rest := []) ⟨hx, hb, hml, hown, hts⟩ (kc_X5_invert l D q vl u hU.1 K x0 x2 z z1 v2 hcq) (va_cwS 2 hts (tw_gS wC_good xq_409 xq_410 xq_403 xq_404) rfl rfl rfl cdd_X5_invert ⟨(Nat.le_of_ble_eq_true rfl), (Nat.le_of_ble_eq_true rfl)⟩) (cw_preS hK hM) rfl rfl hl.1 rfl (lv_room (Nat.le_of_ble_eq_true rfl)) dcX5_exchangedBehind_2 ⟨(Nat.le_of_ble_eq_true rfl), (Nat.le_of_ble_eq_true rfl)⟩) (fun H locs hM => ?_)
  refine lv_iload_n hx hb dcX5_exchangedBehind_5 rfl (lv_at hl 1 rfl) ?_
  obtain ⟨v4, z3, hcq, hq⟩ := tw_cl1 hq
  refine uw_cali hU hM (va_runS (As := [.int v2, .int x1]) (rest := []) ⟨hx, hb, hml, hown, hts⟩ (kc_X5_exchanged l D q vl u hU.1 K v2 x1 z1 z3 v4 hcq) (va_cwS 2 hts (tw_gS wC_good xq_411 xq_412 xq_403 xq_408) rfl rfl rfl cdd_X5_exchanged ⟨(Nat.le_of_ble_eq_true rfl), (Nat.le_of_ble_eq_true rfl)⟩) (cw_preS hK hM) rfl rfl hl.1 rfl (lv_room (Nat.le_of_ble_eq_true rfl)) dcX5_exchangedBehind_6 ⟨(Nat.le_of_ble_eq_true rfl), (Nat.le_of_ble_eq_true rfl)⟩) (fun H locs hM => ?_)
  refine lv_iload_n hx hb dcX5_exchangedBehind_9 rfl (lv_at hl 2 rfl) ?_
  obtain ⟨v6, z5, hcq, hq⟩ := tw_cl1 hq
  refine uw_cali hU hM (va_runS (As := [.int v4, .int x2]) (rest := []) ⟨hx, hb, hml, hown, hts⟩ (kc_X5_invert l D q vl u hU.1 K v4 x2 z3 z5 v6 hcq) (va_cwS 2 hts (tw_gS wC_good xq_409 xq_410 xq_403 xq_404) rfl rfl rfl cdd_X5_invert ⟨(Nat.le_of_ble_eq_true rfl), (Nat.le_of_ble_eq_true rfl)⟩) (cw_preS hK hM) rfl rfl hl.1 rfl (lv_room (Nat.le_of_ble_eq_true rfl)) dcX5_exchangedBehind_10 ⟨(Nat.le_of_ble_eq_true rfl), (Nat.le_of_ble_eq_true rfl)⟩) (fun H locs hM => ?_)
  exact cw_iret hx hb hr hlocks hM hq hQQ dcX5_exchangedBehind_13
theorem dcX5_begin_0 : decode cX5_begin 0 = .ok (.aload_n 0, 1) := by decide +kernel
theorem dcX5_begin_1 : decode cX5_begin 1 = .ok (.iload_n 1, 1) := by decide +kernel
theorem dcX5_begin_2 : decode cX5_begin 2 = .ok (.putfield 25, 3) := by decide +kernel
theorem dcX5_begin_5 : decode cX5_begin 5 = .ok (.aload_n 0, 1) := by decide +kernel
theorem dcX5_begin_6 : decode cX5_begin 6 = .ok (.iconst 0, 1) := by decide +kernel
theorem dcX5_begin_7 : decode cX5_begin 7 = .ok (.putfield 29, 3) := by decide +kernel
theorem dcX5_begin_10 : decode cX5_begin 10 = .ok (.aload_n 0, 1) := by decide +kernel
theorem dcX5_begin_11 : decode cX5_begin 11 = .ok (.iconst 0, 1) := by decide +kernel
theorem dcX5_begin_12 : decode cX5_begin 12 = .ok (.putfield 32, 3) := by decide +kernel
theorem dcX5_begin_15 : decode cX5_begin 15 = .ok (.aload_n 0, 1) := by decide +kernel
theorem dcX5_begin_16 : decode cX5_begin 16 = .ok (.iload_n 1, 1) := by decide +kernel
theorem dcX5_begin_17 : decode cX5_begin 17 = .ok (.invokestatic 35, 3) := by decide +kernel
theorem dcX5_begin_20 : decode cX5_begin 20 = .ok (.putfield 39, 3) := by decide +kernel
theorem dcX5_begin_23 : decode cX5_begin 23 = .ok (.aload_n 0, 1) := by decide +kernel
theorem dcX5_begin_24 : decode cX5_begin 24 = .ok (.iload_n 1, 1) := by decide +kernel
theorem dcX5_begin_25 : decode cX5_begin 25 = .ok (.invokestatic 42, 3) := by decide +kernel
theorem dcX5_begin_28 : decode cX5_begin 28 = .ok (.putfield 45, 3) := by decide +kernel
theorem dcX5_begin_31 : decode cX5_begin 31 = .ok (.return_, 1) := by decide +kernel
def cm_X5_begin_0 (vl : Nat → Nat) (K : Nat) (x1 : Int32) (r0 : Nat) (z : ow_MS) : Option ow_MS :=
 wrF z (r0 + 1) x1 fun z1 => wrF z1 (r0 + 2) 0 fun z2 => wrF z2 (r0 + 3) 0 fun z3 => cs1 (ce_X5_identityOf vl K x1 z3) fun v5 z4 => wrF z4 (r0 + 5) v5 fun z6 => cs1 (ce_X5_deltaOf vl K x1 z6) fun v8 z7 => wrF z7 (r0 + 6) v8 fun z9 => some z9
def ce_X5_begin (vl : Nat → Nat) (K : Nat) (r0 : Nat) (x1 : Int32) (z : ow_MS) : Option ow_MS := cm_X5_begin_0 vl K x1 r0 z
abbrev wc_X5_begin : List Cond := .code yX5_begin cX5_begin 2 none :: wC
theorem cdd_X5_begin : yX5_begin.cls = RX5 ∧ yX5_begin.cls ≠ "java/lang/invoke/MethodHandle" ∧ yX5_begin.cls ≠ "java/lang/invoke/VarHandle" ∧ (parseMethodDescriptor yX5_begin.desc).map (fun d => d.parameters.length) = some 1 := by decide +kernel
set_option maxHeartbeats 4000000 in
set_option maxRecDepth 100000 in
theorem kc_X5_begin (l : Launch) (D : va_G) (q : Nat → ClassId) (vl u : Nat → Nat) (hU0 : tw_inj (cX vl) u) (K : Nat) (r0 : Nat) (x1 : Int32) (hr0 : cw_X5 r0) (z z1 : ow_MS) (hq : ce_X5_begin vl K r0 x1 z = some z1) : Met l yX5_begin wc_X5_begin ({ frames := 1, cells := 0, slots := 0, locals := 22 } : Room) (va_Pc [.ref (u r0), .int x1] (cw_pre D q vl u z)) (va_Qv (fun (_ : Unit) => True) (fun _ t => va_P D vwCl (uw (cX vl) q u z1) t.heap) (tw_A (cX vl) u)) 0 0 (tw_A (cX vl) u) := by
  refine Met.ofW (cc := cX5_begin) (maxL := 2) (ret := none) (by decide) rfl ?_
  intro p e s m args below meth c s₁ B hml hv
  obtain ⟨rfl, hP, hK⟩ := hv
  have hx := B.exec
  have hb := B.bytes
  have hr := B.returns
  have hts := atoms_spec (ws := wc_X5_begin) B.pre
  have hT : ∀ w ∈ wC, w.before ([.ref (u r0), .int x1] : List Value).toArray s = true := fun w h => hts w (List.mem_cons_of_mem _ h)
  have hown : s.vm.findClass RX5 = some m.cls := findClass_of_methodNamed B.named
  have hlocks := B.notSynchronized
  have hU : uw_inj (cX vl) u (tw_A (cX vl) u) := ⟨hU0, fun h hh => ⟨h, hh, rfl⟩⟩
  have hM : uw_M D vwCl (cX vl) q (tw_A (cX vl) u) s.heap u z s.heap [] := ⟨hP, va_S.rf⟩
  have hl := lv_entry ([.ref (u r0), .int x1]) (n := 2) (Nat.le_of_ble_eq_true rfl)
  rw [lg_entry_eq]
  generalize (lg_sl ([.ref (u r0), .int x1]) ++ List.replicate (2 - (lg_sl ([.ref (u r0), .int x1])).length) Slot.unset).toArray = ls at hl ⊢
  have hl : lv_has ls 2 [(0, .ref (u r0)), (1, .int x1)] := hl
  refine ow_named (fun QQ hQQ => ?_)
  generalize ([.ref (u r0), .int x1] : List Value).toArray = args at hts hT hQQ ⊢
  have hq : cm_X5_begin_0 vl K x1 r0 z = some z1 := hq
  unfold cm_X5_begin_0 at hq
  suffices key : ∀ (H : Heap) (locs : List Loc), uw_M D vwCl (cX vl) q (tw_A (cX vl) u) s.heap u z H locs → W p l e ({ frames := 1, cells := 0, slots := 0, locals := 22 } : Room) s m args below meth c H locs 0 0 QQ (F0 m 0 ls []) from key s.heap [] hM
  intro H locs hM
  refine lv_aload_n hx hb dcX5_begin_0 rfl (lv_at hl 0 rfl) ?_
  refine lv_iload_n hx hb dcX5_begin_1 rfl (lv_at hl 1 rfl) ?_
  refine vpX5_25 hx hb hT hown hK hM hU hr0 hq dcX5_begin_2 (fun z1 H locs hM hq => ?_)
  refine lv_aload_n hx hb dcX5_begin_5 rfl (lv_at hl 0 rfl) ?_
  refine lv_iconst (v := 0) hx hb dcX5_begin_6 (by decide) ?_
  refine vpX5_29 hx hb hT hown hK hM hU hr0 hq dcX5_begin_7 (fun z2 H locs hM hq => ?_)
  refine lv_aload_n hx hb dcX5_begin_10 rfl (lv_at hl 0 rfl) ?_
  refine lv_iconst (v := 0) hx hb dcX5_begin_11 (by decide) ?_
  refine vpX5_32 hx hb hT hown hK hM hU hr0 hq dcX5_begin_12 (fun z3 H locs hM hq => ?_)
  refine lv_aload_n hx hb dcX5_begin_15 rfl (lv_at hl 0 rfl) ?_
  refine lv_iload_n hx hb dcX5_begin_16 rfl (lv_at hl 1 rfl) ?_
  obtain ⟨v5, z4, hcq, hq⟩ := tw_cl1 hq
  refine uw_cali hU hM (va_runS (As := [.int x1]) (rest := [.ref (u r0)]) ⟨hx, hb, hml, hown, hts⟩ (kc_X5_identityOf l D q vl u hU.1 K x1 z3 z4 v5 hcq) (va_cwS 1 hts (tw_gS wC_good xq_419 xq_420 xq_403 xq_405) rfl rfl rfl cdd_X5_identityOf ⟨(Nat.le_of_ble_eq_true rfl), (Nat.le_of_ble_eq_true rfl)⟩) (cw_preS hK hM) rfl rfl hl.1 rfl (lv_room (Nat.le_of_ble_eq_true rfl)) dcX5_begin_17 ⟨(Nat.le_of_ble_eq_true rfl), (Nat.le_of_ble_eq_true rfl)⟩) (fun H locs hM => ?_)
  refine vpX5_39 hx hb hT hown hK hM hU hr0 hq dcX5_begin_20 (fun z6 H locs hM hq => ?_)
  refine lv_aload_n hx hb dcX5_begin_23 rfl (lv_at hl 0 rfl) ?_
  refine lv_iload_n hx hb dcX5_begin_24 rfl (lv_at hl 1 rfl) ?_
  obtain ⟨v8, z7, hcq, hq⟩ := tw_cl1 hq
  refine uw_cali hU hM (va_runS (As := [.int x1]) (rest := [.ref (u r0)]) ⟨hx, hb, hml, hown, hts⟩ (kc_X5_deltaOf l D q vl u hU.1 K x1 z6 z7 v8 hcq) (va_cwS 1 hts (tw_gS wC_good xq_421 xq_422 xq_403 xq_406) rfl rfl rfl cdd_X5_deltaOf ⟨(Nat.le_of_ble_eq_true rfl), (Nat.le_of_ble_eq_true rfl)⟩) (cw_preS hK hM) rfl rfl hl.1 rfl (lv_room (Nat.le_of_ble_eq_true rfl)) dcX5_begin_25 ⟨(Nat.le_of_ble_eq_true rfl), (Nat.le_of_ble_eq_true rfl)⟩) (fun H locs hM => ?_)
  refine vpX5_45 hx hb hT hown hK hM hU hr0 hq dcX5_begin_28 (fun z9 H locs hM hq => ?_)
  exact cw_vret hx hb hr hlocks hM hq hQQ dcX5_begin_31
theorem dcX5_copy_0 : decode cX5_copy 0 = .ok (.aload_n 0, 1) := dw_at cX5_copy_k0 (p := 0) rfl (by decide +kernel)
theorem dcX5_copy_1 : decode cX5_copy 1 = .ok (.aload_n 1, 1) := dw_at cX5_copy_k0 (p := 1) rfl (by decide +kernel)
theorem dcX5_copy_2 : decode cX5_copy 2 = .ok (.getfield 25, 3) := dw_at cX5_copy_k0 (p := 2) rfl (by decide +kernel)
theorem dcX5_copy_5 : decode cX5_copy 5 = .ok (.invokevirtual 48, 3) := dw_at cX5_copy_k0 (p := 5) rfl (by decide +kernel)
theorem dcX5_copy_8 : decode cX5_copy 8 = .ok (.aload_n 0, 1) := dw_at cX5_copy_k0 (p := 8) rfl (by decide +kernel)
theorem dcX5_copy_9 : decode cX5_copy 9 = .ok (.aload_n 1, 1) := dw_at cX5_copy_k0 (p := 9) rfl (by decide +kernel)
theorem dcX5_copy_10 : decode cX5_copy 10 = .ok (.getfield 29, 3) := dw_at cX5_copy_k0 (p := 10) rfl (by decide +kernel)
theorem dcX5_copy_13 : decode cX5_copy 13 = .ok (.putfield 29, 3) := dw_at cX5_copy_k0 (p := 13) rfl (by decide +kernel)
theorem dcX5_copy_16 : decode cX5_copy 16 = .ok (.aload_n 0, 1) := dw_at cX5_copy_k0 (p := 16) rfl (by decide +kernel)
theorem dcX5_copy_17 : decode cX5_copy 17 = .ok (.aload_n 1, 1) := dw_at cX5_copy_k0 (p := 17) rfl (by decide +kernel)
theorem dcX5_copy_18 : decode cX5_copy 18 = .ok (.getfield 32, 3) := dw_at cX5_copy_k0 (p := 18) rfl (by decide +kernel)
theorem dcX5_copy_21 : decode cX5_copy 21 = .ok (.putfield 32, 3) := dw_at cX5_copy_k0 (p := 21) rfl (by decide +kernel)
theorem dcX5_copy_24 : decode cX5_copy 24 = .ok (.aload_n 1, 1) := dw_at cX5_copy_k1 (p := 0) rfl (by decide +kernel)
theorem dcX5_copy_25 : decode cX5_copy 25 = .ok (.getfield 11, 3) := dw_at cX5_copy_k1 (p := 1) rfl (by decide +kernel)
theorem dcX5_copy_28 : decode cX5_copy 28 = .ok (.iconst 0, 1) := dw_at cX5_copy_k1 (p := 4) rfl (by decide +kernel)
theorem dcX5_copy_29 : decode cX5_copy 29 = .ok (.aload_n 0, 1) := dw_at cX5_copy_k1 (p := 5) rfl (by decide +kernel)
theorem dcX5_copy_30 : decode cX5_copy 30 = .ok (.getfield 11, 3) := dw_at cX5_copy_k1 (p := 6) rfl (by decide +kernel)
theorem dcX5_copy_33 : decode cX5_copy 33 = .ok (.iconst 0, 1) := dw_at cX5_copy_k1 (p := 9) rfl (by decide +kernel)
theorem dcX5_copy_34 : decode cX5_copy 34 = .ok (.aload_n 0, 1) := dw_at cX5_copy_k1 (p := 10) rfl (by decide +kernel)
theorem dcX5_copy_35 : decode cX5_copy 35 = .ok (.getfield 32, 3) := dw_at cX5_copy_k1 (p := 11) rfl (by decide +kernel)
theorem dcX5_copy_38 : decode cX5_copy 38 = .ok (.invokestatic 52, 3) := dw_at cX5_copy_k1 (p := 14) rfl (by decide +kernel)
theorem dcX5_copy_41 : decode cX5_copy 41 = .ok (.return_, 1) := dw_at cX5_copy_k1 (p := 17) rfl (by decide +kernel)
def cm_X5_copy_0 (vl : Nat → Nat) (K : Nat) (r0 : Nat) (r1 : Nat) (z : ow_MS) : Option ow_MS :=
 rdF z (r1 + 1) fun v1 => cs0 (ce_X5_begin vl K r0 v1 z) fun z2 => rdF z2 (r1 + 2) fun v3 => wrF z2 (r0 + 2) v3 fun z4 => rdF z4 (r1 + 3) fun v5 => wrF z4 (r0 + 3) v5 fun z6 => rdF z6 (r0 + 3) fun v7 => cpI (cX vl) z6 (r1 + 4) 0 (r0 + 4) 0 v7 fun z8 => some z8
def ce_X5_copy (vl : Nat → Nat) (K : Nat) (r0 : Nat) (r1 : Nat) (z : ow_MS) : Option ow_MS := cm_X5_copy_0 vl K r0 r1 z
abbrev wc_X5_copy : List Cond := .code yX5_copy cX5_copy 2 none :: wC
theorem cdd_X5_copy : yX5_copy.cls = RX5 ∧ yX5_copy.cls ≠ "java/lang/invoke/MethodHandle" ∧ yX5_copy.cls ≠ "java/lang/invoke/VarHandle" ∧ (parseMethodDescriptor yX5_copy.desc).map (fun d => d.parameters.length) = some 1 := by decide +kernel
set_option maxHeartbeats 4000000 in
set_option maxRecDepth 100000 in
theorem kc_X5_copy (l : Launch) (D : va_G) (q : Nat → ClassId) (vl u : Nat → Nat) (hU0 : tw_inj (cX vl) u) (K : Nat) (r0 : Nat) (r1 : Nat) (hr0 : cw_X5 r0) (hr1 : cw_X5 r1) (z z1 : ow_MS) (hq : ce_X5_copy vl K r0 r1 z = some z1) : Met l yX5_copy wc_X5_copy ({ frames := 2, cells := 0, slots := 0, locals := 60 } : Room) (va_Pc [.ref (u r0), .ref (u r1)] (cw_pre D q vl u z)) (va_Qv (fun (_ : Unit) => True) (fun _ t => va_P D vwCl (uw (cX vl) q u z1) t.heap) (tw_A (cX vl) u)) 0 0 (tw_A (cX vl) u) := by
  refine Met.ofW (cc := cX5_copy) (maxL := 2) (ret := none) (by decide) rfl ?_
  intro p e s m args below meth c s₁ B hml hv
  obtain ⟨rfl, hP, hK⟩ := hv
  have hx := B.exec
  have hb := B.bytes
  have hr := B.returns
  have hts := atoms_spec (ws := wc_X5_copy) B.pre
  have hT : ∀ w ∈ wC, w.before ([.ref (u r0), .ref (u r1)] : List Value).toArray s = true := fun w h => hts w (List.mem_cons_of_mem _ h)
  have hown : s.vm.findClass RX5 = some m.cls := findClass_of_methodNamed B.named
  have hlocks := B.notSynchronized
  have hU : uw_inj (cX vl) u (tw_A (cX vl) u) := ⟨hU0, fun h hh => ⟨h, hh, rfl⟩⟩
  have hM : uw_M D vwCl (cX vl) q (tw_A (cX vl) u) s.heap u z s.heap [] := ⟨hP, va_S.rf⟩
  have hl := lv_entry ([.ref (u r0), .ref (u r1)]) (n := 2) (Nat.le_of_ble_eq_true rfl)
  rw [lg_entry_eq]
  generalize (lg_sl ([.ref (u r0), .ref (u r1)]) ++ List.replicate (2 - (lg_sl ([.ref (u r0), .ref (u r1)])).length) Slot.unset).toArray = ls at hl ⊢
  have hl : lv_has ls 2 [(0, .ref (u r0)), (1, .ref (u r1))] := hl
  refine ow_named (fun QQ hQQ => ?_)
  generalize ([.ref (u r0), .ref (u r1)] : List Value).toArray = args at hts hT hQQ ⊢
  have hq : cm_X5_copy_0 vl K r0 r1 z = some z1 := hq
  unfold cm_X5_copy_0 at hq
  suffices key : ∀ (H : Heap) (locs : List Loc), uw_M D vwCl (cX vl) q (tw_A (cX vl) u) s.heap u z H locs → W p l e ({ frames := 2, cells := 0, slots := 0, locals := 60 } : Room) s m args below meth c H locs 0 0 QQ (F0 m 0 ls []) from key s.heap [] hM
  intro H locs hM
  refine lv_aload_n hx hb dcX5_copy_0 rfl (lv_at hl 0 rfl) ?_
  refine lv_aload_n hx hb dcX5_copy_1 rfl (lv_at hl 1 rfl) ?_
  refine vgX5_25 hx hb hT hown hK hM hr1 hq dcX5_copy_2 (fun v1 hq => ?_)
  obtain ⟨z2, hcq, hq⟩ := tw_cl0 hq
  refine uw_calv hU hM (va_runV (As := [.int v1]) (rest := []) ⟨hx, hb, hml, hown, hts⟩ (kc_X5_begin l D q vl u hU.1 K r0 v1 hr0 z z2 hcq) (cwV 1 hts (tw_gV wC_good xq_426 xq_427 xq_428 xq_403 xq_423) rfl rfl rfl cdd_X5_begin ⟨(Nat.le_of_ble_eq_true rfl), (Nat.le_of_ble_eq_true rfl)⟩) (cw_preV hK hM (co_X5 hr0) rfl) rfl rfl hl.1 rfl (lv_room (Nat.le_of_ble_eq_true rfl)) dcX5_copy_5 ⟨(Nat.le_of_ble_eq_true rfl), (Nat.le_of_ble_eq_true rfl)⟩) (fun H locs hM => ?_)
  refine lv_aload_n hx hb dcX5_copy_8 rfl (lv_at hl 0 rfl) ?_
  refine lv_aload_n hx hb dcX5_copy_9 rfl (lv_at hl 1 rfl) ?_
  refine vgX5_29 hx hb hT hown hK hM hr1 hq dcX5_copy_10 (fun v3 hq => ?_)
  refine vpX5_29 hx hb hT hown hK hM hU hr0 hq dcX5_copy_13 (fun z4 H locs hM hq => ?_)
  refine lv_aload_n hx hb dcX5_copy_16 rfl (lv_at hl 0 rfl) ?_
  refine lv_aload_n hx hb dcX5_copy_17 rfl (lv_at hl 1 rfl) ?_
  refine vgX5_32 hx hb hT hown hK hM hr1 hq dcX5_copy_18 (fun v5 hq => ?_)
  refine vpX5_32 hx hb hT hown hK hM hU hr0 hq dcX5_copy_21 (fun z6 H locs hM hq => ?_)
  refine lv_aload_n hx hb dcX5_copy_24 rfl (lv_at hl 1 rfl) ?_
  refine vgX5_11 hx hb hT hown hK hM hr1 dcX5_copy_25 ?_
  refine lv_iconst (v := 0) hx hb dcX5_copy_28 (by decide) ?_
  refine lv_aload_n hx hb dcX5_copy_29 rfl (lv_at hl 0 rfl) ?_
  refine vgX5_11 hx hb hT hown hK hM hr0 dcX5_copy_30 ?_
  refine lv_iconst (v := 0) hx hb dcX5_copy_33 (by decide) ?_
  refine lv_aload_n hx hb dcX5_copy_34 rfl (lv_at hl 0 rfl) ?_
  refine vgX5_32 hx hb hT hown hK hM hr0 hq dcX5_copy_35 (fun v7 hq => ?_)
  refine uw_cpI cX_ok hU hx hb (by rw [hml]; exact hl.1.symm) hown (hT _ xq_425) (hT _ xq_130) (hT _ xq_131) (hT _ xq_132) hK hM (cr_X5_3 hr1) (cr_X5_3 hr0) hq (Nat.le_of_ble_eq_true rfl) (by decide) dcX5_copy_38 (fun z8 H locs hM hq => ?_)
  exact cw_vret hx hb hr hlocks hM hq hQQ dcX5_copy_41
theorem dcX5_sameAs_0 : decode cX5_sameAs 0 = .ok (.aload_n 0, 1) := dw_at cX5_sameAs_k0 (p := 0) rfl (by decide +kernel)
theorem dcX5_sameAs_1 : decode cX5_sameAs 1 = .ok (.getfield 25, 3) := dw_at cX5_sameAs_k0 (p := 1) rfl (by decide +kernel)
theorem dcX5_sameAs_4 : decode cX5_sameAs 4 = .ok (.aload_n 1, 1) := dw_at cX5_sameAs_k0 (p := 4) rfl (by decide +kernel)
theorem dcX5_sameAs_5 : decode cX5_sameAs 5 = .ok (.getfield 25, 3) := dw_at cX5_sameAs_k0 (p := 5) rfl (by decide +kernel)
theorem dcX5_sameAs_8 : decode cX5_sameAs 8 = .ok (.if_icmp .ne 25, 3) := dw_at cX5_sameAs_k0 (p := 8) rfl (by decide +kernel)
theorem dcX5_sameAs_11 : decode cX5_sameAs 11 = .ok (.aload_n 0, 1) := dw_at cX5_sameAs_k0 (p := 11) rfl (by decide +kernel)
theorem dcX5_sameAs_12 : decode cX5_sameAs 12 = .ok (.getfield 29, 3) := dw_at cX5_sameAs_k0 (p := 12) rfl (by decide +kernel)
theorem dcX5_sameAs_15 : decode cX5_sameAs 15 = .ok (.aload_n 1, 1) := dw_at cX5_sameAs_k0 (p := 15) rfl (by decide +kernel)
theorem dcX5_sameAs_16 : decode cX5_sameAs 16 = .ok (.getfield 29, 3) := dw_at cX5_sameAs_k0 (p := 16) rfl (by decide +kernel)
theorem dcX5_sameAs_19 : decode cX5_sameAs 19 = .ok (.if_icmp .ne 14, 3) := dw_at cX5_sameAs_k0 (p := 19) rfl (by decide +kernel)
theorem dcX5_sameAs_22 : decode cX5_sameAs 22 = .ok (.aload_n 0, 1) := dw_at cX5_sameAs_k0 (p := 22) rfl (by decide +kernel)
theorem dcX5_sameAs_23 : decode cX5_sameAs 23 = .ok (.getfield 32, 3) := dw_at cX5_sameAs_k0 (p := 23) rfl (by decide +kernel)
theorem dcX5_sameAs_26 : decode cX5_sameAs 26 = .ok (.aload_n 1, 1) := dw_at cX5_sameAs_k1 (p := 0) rfl (by decide +kernel)
theorem dcX5_sameAs_27 : decode cX5_sameAs 27 = .ok (.getfield 32, 3) := dw_at cX5_sameAs_k1 (p := 1) rfl (by decide +kernel)
theorem dcX5_sameAs_30 : decode cX5_sameAs 30 = .ok (.if_icmp .eq 5, 3) := dw_at cX5_sameAs_k1 (p := 4) rfl (by decide +kernel)
theorem dcX5_sameAs_33 : decode cX5_sameAs 33 = .ok (.iconst 0, 1) := dw_at cX5_sameAs_k1 (p := 7) rfl (by decide +kernel)
theorem dcX5_sameAs_34 : decode cX5_sameAs 34 = .ok (.ireturn, 1) := dw_at cX5_sameAs_k1 (p := 8) rfl (by decide +kernel)
theorem dcX5_sameAs_35 : decode cX5_sameAs 35 = .ok (.iconst 0, 1) := dw_at cX5_sameAs_k1 (p := 9) rfl (by decide +kernel)
theorem dcX5_sameAs_36 : decode cX5_sameAs 36 = .ok (.istore_n 2, 1) := dw_at cX5_sameAs_k1 (p := 10) rfl (by decide +kernel)
theorem dcX5_sameAs_37 : decode cX5_sameAs 37 = .ok (.iload_n 2, 1) := dw_at cX5_sameAs_k1 (p := 11) rfl (by decide +kernel)
theorem dcX5_sameAs_38 : decode cX5_sameAs 38 = .ok (.aload_n 0, 1) := dw_at cX5_sameAs_k1 (p := 12) rfl (by decide +kernel)
theorem dcX5_sameAs_39 : decode cX5_sameAs 39 = .ok (.getfield 32, 3) := dw_at cX5_sameAs_k1 (p := 13) rfl (by decide +kernel)
theorem dcX5_sameAs_42 : decode cX5_sameAs 42 = .ok (.if_icmp .ge 26, 3) := dw_at cX5_sameAs_k1 (p := 16) rfl (by decide +kernel)
theorem dcX5_sameAs_45 : decode cX5_sameAs 45 = .ok (.aload_n 0, 1) := dw_at cX5_sameAs_k1 (p := 19) rfl (by decide +kernel)
theorem dcX5_sameAs_46 : decode cX5_sameAs 46 = .ok (.getfield 11, 3) := dw_at cX5_sameAs_k1 (p := 20) rfl (by decide +kernel)
theorem dcX5_sameAs_49 : decode cX5_sameAs 49 = .ok (.iload_n 2, 1) := dw_at cX5_sameAs_k1 (p := 23) rfl (by decide +kernel)
theorem dcX5_sameAs_50 : decode cX5_sameAs 50 = .ok (.iaload, 1) := dw_at cX5_sameAs_k2 (p := 0) rfl (by decide +kernel)
theorem dcX5_sameAs_51 : decode cX5_sameAs 51 = .ok (.aload_n 1, 1) := dw_at cX5_sameAs_k2 (p := 1) rfl (by decide +kernel)
theorem dcX5_sameAs_52 : decode cX5_sameAs 52 = .ok (.getfield 11, 3) := dw_at cX5_sameAs_k2 (p := 2) rfl (by decide +kernel)
theorem dcX5_sameAs_55 : decode cX5_sameAs 55 = .ok (.iload_n 2, 1) := dw_at cX5_sameAs_k2 (p := 5) rfl (by decide +kernel)
theorem dcX5_sameAs_56 : decode cX5_sameAs 56 = .ok (.iaload, 1) := dw_at cX5_sameAs_k2 (p := 6) rfl (by decide +kernel)
theorem dcX5_sameAs_57 : decode cX5_sameAs 57 = .ok (.if_icmp .eq 5, 3) := dw_at cX5_sameAs_k2 (p := 7) rfl (by decide +kernel)
theorem dcX5_sameAs_60 : decode cX5_sameAs 60 = .ok (.iconst 0, 1) := dw_at cX5_sameAs_k2 (p := 10) rfl (by decide +kernel)
theorem dcX5_sameAs_61 : decode cX5_sameAs 61 = .ok (.ireturn, 1) := dw_at cX5_sameAs_k2 (p := 11) rfl (by decide +kernel)
theorem dcX5_sameAs_62 : decode cX5_sameAs 62 = .ok (.iinc 2 1, 3) := dw_at cX5_sameAs_k2 (p := 12) rfl (by decide +kernel)
theorem dcX5_sameAs_65 : decode cX5_sameAs 65 = .ok (.goto (-28), 3) := dw_at cX5_sameAs_k2 (p := 15) rfl (by decide +kernel)
theorem dcX5_sameAs_68 : decode cX5_sameAs 68 = .ok (.iconst 1, 1) := dw_at cX5_sameAs_k2 (p := 18) rfl (by decide +kernel)
theorem dcX5_sameAs_69 : decode cX5_sameAs 69 = .ok (.ireturn, 1) := dw_at cX5_sameAs_k2 (p := 19) rfl (by decide +kernel)
def cm_X5_sameAs_0 (vl : Nat → Nat) (K : Nat) (go : Nat → Int32 → Nat → Nat → ow_MS → Option (Int32 × ow_MS)) (x2 : Int32) (r0 : Nat) (r1 : Nat) (z : ow_MS) : Option (Int32 × ow_MS) :=
 rdF z (r0 + 1) fun v1 => rdF z (r1 + 1) fun v2 => (if v1 = v2 then rdF z (r0 + 2) fun v3 => rdF z (r1 + 2) fun v4 => (if v3 = v4 then rdF z (r0 + 3) fun v5 => rdF z (r1 + 3) fun v6 => (if v5 = v6 then go 1 0 r0 r1 z
 else okZ 0 (some (0, z)))
 else okZ 0 (some (0, z)))
 else okZ 0 (some (0, z)))
def cm_X5_sameAs_1 (vl : Nat → Nat) (K : Nat) (go : Nat → Int32 → Nat → Nat → ow_MS → Option (Int32 × ow_MS)) (x2 : Int32) (r0 : Nat) (r1 : Nat) (z : ow_MS) : Option (Int32 × ow_MS) :=
 rdF z (r0 + 3) fun v7 => (if v7 ≤ x2 then okZ 1 (some (1, z))
 else crI (cX vl) z (r0 + 4) x2 fun v8 => crI (cX vl) z (r1 + 4) x2 fun v9 => (if v8 = v9 then go 1 (x2 + 1) r0 r1 z
 else okZ 0 (some (0, z))))
def cb_X5_sameAs (vl : Nat → Nat) (K : Nat) (go : Nat → Int32 → Nat → Nat → ow_MS → Option (Int32 × ow_MS)) (L : Nat) (x2 : Int32) (r0 : Nat) (r1 : Nat) (z : ow_MS) : Option (Int32 × ow_MS) := match L with
  | 0 => cm_X5_sameAs_0 vl K go x2 r0 r1 z
  | 1 => cm_X5_sameAs_1 vl K go x2 r0 r1 z
  | _ => none
def c_X5_sameAs (vl : Nat → Nat) (K : Nat) : Nat → Nat → Int32 → Nat → Nat → ow_MS → Option (Int32 × ow_MS)
  | 0 => fun _ _ _ _ _ => none
  | k + 1 => cb_X5_sameAs vl K (c_X5_sameAs vl K k)
def ce_X5_sameAs (vl : Nat → Nat) (K : Nat) (r0 : Nat) (r1 : Nat) (z : ow_MS) : Option (Int32 × ow_MS) := c_X5_sameAs vl K K 0 0 r0 r1 z
abbrev wc_X5_sameAs : List Cond := .code yX5_sameAs cX5_sameAs 3 (some .boolean) :: wC
theorem cdd_X5_sameAs : yX5_sameAs.cls = RX5 ∧ yX5_sameAs.cls ≠ "java/lang/invoke/MethodHandle" ∧ yX5_sameAs.cls ≠ "java/lang/invoke/VarHandle" ∧ (parseMethodDescriptor yX5_sameAs.desc).map (fun d => d.parameters.length) = some 1 := by decide +kernel
set_option maxHeartbeats 4000000 in
set_option maxRecDepth 100000 in
theorem kc_X5_sameAs (l : Launch) (D : va_G) (q : Nat → ClassId) (vl u : Nat → Nat) (hU0 : tw_inj (cX vl) u) (K : Nat) (r0 : Nat) (r1 : Nat) (hr0 : cw_X5 r0) (hr1 : cw_X5 r1) (z z1 : ow_MS) (r : Int32) (hq : ce_X5_sameAs vl K r0 r1 z = some (r, z1)) : Met l yX5_sameAs wc_X5_sameAs ({ frames := 0, cells := 0, slots := 0, locals := 0 } : Room) (va_Pc [.ref (u r0), .ref (u r1)] (cw_pre D q vl u z)) (va_Qi (fun x (_ : Unit) => x = r) (fun _ t => va_P D vwCl (uw (cX vl) q u z1) t.heap) (tw_A (cX vl) u)) 0 0 (tw_A (cX vl) u) := by
  refine Met.ofW (cc := cX5_sameAs) (maxL := 3) (ret := (some .boolean)) (by decide) rfl ?_
  intro p e s m args below meth c s₁ B hml hv
  obtain ⟨rfl, hP, hK⟩ := hv
  have hx := B.exec
  have hb := B.bytes
  have hr := B.returns
  have hts := atoms_spec (ws := wc_X5_sameAs) B.pre
  have hT : ∀ w ∈ wC, w.before ([.ref (u r0), .ref (u r1)] : List Value).toArray s = true := fun w h => hts w (List.mem_cons_of_mem _ h)
  have hown : s.vm.findClass RX5 = some m.cls := findClass_of_methodNamed B.named
  have hlocks := B.notSynchronized
  have hU : uw_inj (cX vl) u (tw_A (cX vl) u) := ⟨hU0, fun h hh => ⟨h, hh, rfl⟩⟩
  have hM : uw_M D vwCl (cX vl) q (tw_A (cX vl) u) s.heap u z s.heap [] := ⟨hP, va_S.rf⟩
  have hl := lv_entry ([.ref (u r0), .ref (u r1)]) (n := 3) (Nat.le_of_ble_eq_true rfl)
  rw [lg_entry_eq]
  generalize (lg_sl ([.ref (u r0), .ref (u r1)]) ++ List.replicate (3 - (lg_sl ([.ref (u r0), .ref (u r1)])).length) Slot.unset).toArray = ls at hl ⊢
  have hl : lv_has ls 3 [(0, .ref (u r0)), (1, .ref (u r1))] := hl
  refine ow_named (fun QQ hQQ => ?_)
  generalize ([.ref (u r0), .ref (u r1)] : List Value).toArray = args at hts hT hQQ ⊢
  have key : ∀ k : Nat, (∀ (x2 : Int32) (r0 : Nat) (r1 : Nat) (z : ow_MS) (H : Heap) (locs : List Loc) (ls : Array Slot), cw_X5 r0 → cw_X5 r1 → uw_M D vwCl (cX vl) q (tw_A (cX vl) u) s.heap u z H locs → lv_has ls 3 [(0, .ref (u r0)), (1, .ref (u r1))] → c_X5_sameAs vl K k 0 x2 r0 r1 z = some (r, z1) → W p l e ({ frames := 0, cells := 0, slots := 0, locals := 0 } : Room) s m args below meth c H locs 0 0 QQ (F0 m 0 ls [])) ∧ (∀ (x2 : Int32) (r0 : Nat) (r1 : Nat) (z : ow_MS) (H : Heap) (locs : List Loc) (ls : Array Slot), cw_X5 r0 → cw_X5 r1 → uw_M D vwCl (cX vl) q (tw_A (cX vl) u) s.heap u z H locs → lv_has ls 3 [(0, .ref (u r0)), (1, .ref (u r1)), (2, .int x2)] → c_X5_sameAs vl K k 1 x2 r0 r1 z = some (r, z1) → W p l e ({ frames := 0, cells := 0, slots := 0, locals := 0 } : Room) s m args below meth c H locs 0 0 QQ (F0 m 37 ls [])) := by
    intro k
    induction k with
    | zero => exact ⟨fun _ _ _ _ _ _ _ _ _ _ _ hq => cw_no hq, fun _ _ _ _ _ _ _ _ _ _ _ hq => cw_no hq⟩
    | succ k ih =>
      obtain ⟨ih_0, ih_1⟩ := ih
      refine ⟨?_, ?_⟩
      · intro x2 r0 r1 z H locs ls hr0 hr1 hM hl hq
        have hq : cm_X5_sameAs_0 vl K (c_X5_sameAs vl K k) x2 r0 r1 z = some (r, z1) := hq
        unfold cm_X5_sameAs_0 at hq
        refine lv_aload_n hx hb dcX5_sameAs_0 rfl (lv_at hl 0 rfl) ?_
        refine vgX5_25 hx hb hT hown hK hM hr0 hq dcX5_sameAs_1 (fun v1 hq => ?_)
        refine lv_aload_n hx hb dcX5_sameAs_4 rfl (lv_at hl 1 rfl) ?_
        refine vgX5_25 hx hb hT hown hK hM hr1 hq dcX5_sameAs_5 (fun v2 hq => ?_)
        refine lv_icmp_ne (tgt := 33) hx hb dcX5_sameAs_8 (by decide) (fun hc => ?_) (fun hc => ?_)
        · have hq := tw_if hq hc
          refine lv_iconst (v := 0) hx hb dcX5_sameAs_33 (by decide) ?_
          obtain ⟨hz, hq⟩ := tw_gZ hq
          exact cw_zret hx hb hr hlocks hM hz hq hQQ dcX5_sameAs_34
        · have hq := tw_it hq hc
          refine lv_aload_n hx hb dcX5_sameAs_11 rfl (lv_at hl 0 rfl) ?_
          refine vgX5_29 hx hb hT hown hK hM hr0 hq dcX5_sameAs_12 (fun v3 hq => ?_)
          refine lv_aload_n hx hb dcX5_sameAs_15 rfl (lv_at hl 1 rfl) ?_
          refine vgX5_29 hx hb hT hown hK hM hr1 hq dcX5_sameAs_16 (fun v4 hq => ?_)
          refine lv_icmp_ne (tgt := 33) hx hb dcX5_sameAs_19 (by decide) (fun hc => ?_) (fun hc => ?_)
          · have hq := tw_if hq hc
            refine lv_iconst (v := 0) hx hb dcX5_sameAs_33 (by decide) ?_
            obtain ⟨hz, hq⟩ := tw_gZ hq
            exact cw_zret hx hb hr hlocks hM hz hq hQQ dcX5_sameAs_34
          · have hq := tw_it hq hc
            refine lv_aload_n hx hb dcX5_sameAs_22 rfl (lv_at hl 0 rfl) ?_
            refine vgX5_32 hx hb hT hown hK hM hr0 hq dcX5_sameAs_23 (fun v5 hq => ?_)
            refine lv_aload_n hx hb dcX5_sameAs_26 rfl (lv_at hl 1 rfl) ?_
            refine vgX5_32 hx hb hT hown hK hM hr1 hq dcX5_sameAs_27 (fun v6 hq => ?_)
            refine lv_icmp_eq (tgt := 35) hx hb dcX5_sameAs_30 (by decide) (fun hc => ?_) (fun hc => ?_)
            · have hq := tw_it hq hc
              refine lv_iconst (v := 0) hx hb dcX5_sameAs_35 (by decide) ?_
              refine lv_istore_n (lv' := [(2, .int 0), (0, .ref (u r0)), (1, .ref (u r1))]) hx hb dcX5_sameAs_36 rfl hl (by decide) rfl (fun ls hl => ?_)
              exact ih_1 0 r0 r1 z H locs ls hr0 hr1 hM (lv_sub hl [1, 2, 0] rfl) hq
            · have hq := tw_if hq hc
              refine lv_iconst (v := 0) hx hb dcX5_sameAs_33 (by decide) ?_
              obtain ⟨hz, hq⟩ := tw_gZ hq
              exact cw_zret hx hb hr hlocks hM hz hq hQQ dcX5_sameAs_34
      · intro x2 r0 r1 z H locs ls hr0 hr1 hM hl hq
        have hq : cm_X5_sameAs_1 vl K (c_X5_sameAs vl K k) x2 r0 r1 z = some (r, z1) := hq
        unfold cm_X5_sameAs_1 at hq
        refine lv_iload_n hx hb dcX5_sameAs_37 rfl (lv_at hl 2 rfl) ?_
        refine lv_aload_n hx hb dcX5_sameAs_38 rfl (lv_at hl 0 rfl) ?_
        refine vgX5_32 hx hb hT hown hK hM hr0 hq dcX5_sameAs_39 (fun v7 hq => ?_)
        refine lv_icmp_ge (tgt := 68) hx hb dcX5_sameAs_42 (by decide) (fun hc => ?_) (fun hc => ?_)
        · have hq := tw_it hq hc
          refine lv_iconst (v := 1) hx hb dcX5_sameAs_68 (by decide) ?_
          obtain ⟨hz, hq⟩ := tw_gZ hq
          exact cw_zret hx hb hr hlocks hM hz hq hQQ dcX5_sameAs_69
        · have hq := tw_if hq hc
          refine lv_aload_n hx hb dcX5_sameAs_45 rfl (lv_at hl 0 rfl) ?_
          refine vgX5_11 hx hb hT hown hK hM hr0 dcX5_sameAs_46 ?_
          refine lv_iload_n hx hb dcX5_sameAs_49 rfl (lv_at hl 2 rfl) ?_
          refine uw_iald cX_ok hx hb hK hM (cr_X5_3 hr0) hq dcX5_sameAs_50 (fun v8 hq => ?_)
          refine lv_aload_n hx hb dcX5_sameAs_51 rfl (lv_at hl 1 rfl) ?_
          refine vgX5_11 hx hb hT hown hK hM hr1 dcX5_sameAs_52 ?_
          refine lv_iload_n hx hb dcX5_sameAs_55 rfl (lv_at hl 2 rfl) ?_
          refine uw_iald cX_ok hx hb hK hM (cr_X5_3 hr1) hq dcX5_sameAs_56 (fun v9 hq => ?_)
          refine lv_icmp_eq (tgt := 62) hx hb dcX5_sameAs_57 (by decide) (fun hc => ?_) (fun hc => ?_)
          · have hq := tw_it hq hc
            refine lv_iinc (v := (x2 + 1)) (lv' := [(2, .int (x2 + 1)), (0, .ref (u r0)), (1, .ref (u r1))]) hx hb dcX5_sameAs_62 hl (k := 2) rfl rfl (by decide) rfl (fun ls hl => ?_)
            refine lv_goto (tgt := 37) hx hb dcX5_sameAs_65 (by decide) ?_
            exact ih_1 (x2 + 1) r0 r1 z H locs ls hr0 hr1 hM (lv_sub hl [1, 2, 0] rfl) hq
          · have hq := tw_if hq hc
            refine lv_iconst (v := 0) hx hb dcX5_sameAs_60 (by decide) ?_
            obtain ⟨hz, hq⟩ := tw_gZ hq
            exact cw_zret hx hb hr hlocks hM hz hq hQQ dcX5_sameAs_61
  exact (key K).1 0 r0 r1 z s.heap [] ls hr0 hr1 hM (lv_sub hl [0, 1] rfl) hq
theorem dcX5_strip_0 : decode cX5_strip 0 = .ok (.iconst 0, 1) := dw_at cX5_strip_k0 (p := 0) rfl (by decide +kernel)
theorem dcX5_strip_1 : decode cX5_strip 1 = .ok (.istore_n 1, 1) := dw_at cX5_strip_k0 (p := 1) rfl (by decide +kernel)
theorem dcX5_strip_2 : decode cX5_strip 2 = .ok (.iload_n 1, 1) := dw_at cX5_strip_k0 (p := 2) rfl (by decide +kernel)
theorem dcX5_strip_3 : decode cX5_strip 3 = .ok (.aload_n 0, 1) := dw_at cX5_strip_k0 (p := 3) rfl (by decide +kernel)
theorem dcX5_strip_4 : decode cX5_strip 4 = .ok (.getfield 32, 3) := dw_at cX5_strip_k0 (p := 4) rfl (by decide +kernel)
theorem dcX5_strip_7 : decode cX5_strip 7 = .ok (.if_icmp .ge 22, 3) := dw_at cX5_strip_k0 (p := 7) rfl (by decide +kernel)
theorem dcX5_strip_10 : decode cX5_strip 10 = .ok (.aload_n 0, 1) := dw_at cX5_strip_k0 (p := 10) rfl (by decide +kernel)
theorem dcX5_strip_11 : decode cX5_strip 11 = .ok (.getfield 11, 3) := dw_at cX5_strip_k0 (p := 11) rfl (by decide +kernel)
theorem dcX5_strip_14 : decode cX5_strip 14 = .ok (.iload_n 1, 1) := dw_at cX5_strip_k0 (p := 14) rfl (by decide +kernel)
theorem dcX5_strip_15 : decode cX5_strip 15 = .ok (.iaload, 1) := dw_at cX5_strip_k0 (p := 15) rfl (by decide +kernel)
theorem dcX5_strip_16 : decode cX5_strip 16 = .ok (.aload_n 0, 1) := dw_at cX5_strip_k0 (p := 16) rfl (by decide +kernel)
theorem dcX5_strip_17 : decode cX5_strip 17 = .ok (.getfield 45, 3) := dw_at cX5_strip_k0 (p := 17) rfl (by decide +kernel)
theorem dcX5_strip_20 : decode cX5_strip 20 = .ok (.if_icmp .ne 9, 3) := dw_at cX5_strip_k0 (p := 20) rfl (by decide +kernel)
theorem dcX5_strip_23 : decode cX5_strip 23 = .ok (.iinc 1 1, 3) := dw_at cX5_strip_k0 (p := 23) rfl (by decide +kernel)
theorem dcX5_strip_26 : decode cX5_strip 26 = .ok (.goto (-24), 3) := dw_at cX5_strip_k1 (p := 0) rfl (by decide +kernel)
theorem dcX5_strip_29 : decode cX5_strip 29 = .ok (.aload_n 0, 1) := dw_at cX5_strip_k1 (p := 3) rfl (by decide +kernel)
theorem dcX5_strip_30 : decode cX5_strip 30 = .ok (.dup, 1) := dw_at cX5_strip_k1 (p := 4) rfl (by decide +kernel)
theorem dcX5_strip_31 : decode cX5_strip 31 = .ok (.getfield 29, 3) := dw_at cX5_strip_k1 (p := 5) rfl (by decide +kernel)
theorem dcX5_strip_34 : decode cX5_strip 34 = .ok (.iload_n 1, 1) := dw_at cX5_strip_k1 (p := 8) rfl (by decide +kernel)
theorem dcX5_strip_35 : decode cX5_strip 35 = .ok (.iadd, 1) := dw_at cX5_strip_k1 (p := 9) rfl (by decide +kernel)
theorem dcX5_strip_36 : decode cX5_strip 36 = .ok (.putfield 29, 3) := dw_at cX5_strip_k1 (p := 10) rfl (by decide +kernel)
theorem dcX5_strip_39 : decode cX5_strip 39 = .ok (.aload_n 0, 1) := dw_at cX5_strip_k1 (p := 13) rfl (by decide +kernel)
theorem dcX5_strip_40 : decode cX5_strip 40 = .ok (.dup, 1) := dw_at cX5_strip_k1 (p := 14) rfl (by decide +kernel)
theorem dcX5_strip_41 : decode cX5_strip 41 = .ok (.getfield 32, 3) := dw_at cX5_strip_k1 (p := 15) rfl (by decide +kernel)
theorem dcX5_strip_44 : decode cX5_strip 44 = .ok (.iload_n 1, 1) := dw_at cX5_strip_k1 (p := 18) rfl (by decide +kernel)
theorem dcX5_strip_45 : decode cX5_strip 45 = .ok (.isub, 1) := dw_at cX5_strip_k1 (p := 19) rfl (by decide +kernel)
theorem dcX5_strip_46 : decode cX5_strip 46 = .ok (.putfield 32, 3) := dw_at cX5_strip_k1 (p := 20) rfl (by decide +kernel)
theorem dcX5_strip_49 : decode cX5_strip 49 = .ok (.aload_n 0, 1) := dw_at cX5_strip_k1 (p := 23) rfl (by decide +kernel)
theorem dcX5_strip_50 : decode cX5_strip 50 = .ok (.getfield 11, 3) := dw_at cX5_strip_k2 (p := 0) rfl (by decide +kernel)
theorem dcX5_strip_53 : decode cX5_strip 53 = .ok (.iload_n 1, 1) := dw_at cX5_strip_k2 (p := 3) rfl (by decide +kernel)
theorem dcX5_strip_54 : decode cX5_strip 54 = .ok (.aload_n 0, 1) := dw_at cX5_strip_k2 (p := 4) rfl (by decide +kernel)
theorem dcX5_strip_55 : decode cX5_strip 55 = .ok (.getfield 11, 3) := dw_at cX5_strip_k2 (p := 5) rfl (by decide +kernel)
theorem dcX5_strip_58 : decode cX5_strip 58 = .ok (.iconst 0, 1) := dw_at cX5_strip_k2 (p := 8) rfl (by decide +kernel)
theorem dcX5_strip_59 : decode cX5_strip 59 = .ok (.aload_n 0, 1) := dw_at cX5_strip_k2 (p := 9) rfl (by decide +kernel)
theorem dcX5_strip_60 : decode cX5_strip 60 = .ok (.getfield 32, 3) := dw_at cX5_strip_k2 (p := 10) rfl (by decide +kernel)
theorem dcX5_strip_63 : decode cX5_strip 63 = .ok (.invokestatic 52, 3) := dw_at cX5_strip_k2 (p := 13) rfl (by decide +kernel)
theorem dcX5_strip_66 : decode cX5_strip 66 = .ok (.aload_n 0, 1) := dw_at cX5_strip_k2 (p := 16) rfl (by decide +kernel)
theorem dcX5_strip_67 : decode cX5_strip 67 = .ok (.getfield 32, 3) := dw_at cX5_strip_k2 (p := 17) rfl (by decide +kernel)
theorem dcX5_strip_70 : decode cX5_strip 70 = .ok (.ifCond .le 34, 3) := dw_at cX5_strip_k2 (p := 20) rfl (by decide +kernel)
theorem dcX5_strip_73 : decode cX5_strip 73 = .ok (.aload_n 0, 1) := dw_at cX5_strip_k2 (p := 23) rfl (by decide +kernel)
theorem dcX5_strip_74 : decode cX5_strip 74 = .ok (.getfield 11, 3) := dw_at cX5_strip_k3 (p := 0) rfl (by decide +kernel)
theorem dcX5_strip_77 : decode cX5_strip 77 = .ok (.aload_n 0, 1) := dw_at cX5_strip_k3 (p := 3) rfl (by decide +kernel)
theorem dcX5_strip_78 : decode cX5_strip 78 = .ok (.getfield 32, 3) := dw_at cX5_strip_k3 (p := 4) rfl (by decide +kernel)
theorem dcX5_strip_81 : decode cX5_strip 81 = .ok (.iconst 1, 1) := dw_at cX5_strip_k3 (p := 7) rfl (by decide +kernel)
theorem dcX5_strip_82 : decode cX5_strip 82 = .ok (.isub, 1) := dw_at cX5_strip_k3 (p := 8) rfl (by decide +kernel)
theorem dcX5_strip_83 : decode cX5_strip 83 = .ok (.iaload, 1) := dw_at cX5_strip_k3 (p := 9) rfl (by decide +kernel)
theorem dcX5_strip_84 : decode cX5_strip 84 = .ok (.aload_n 0, 1) := dw_at cX5_strip_k3 (p := 10) rfl (by decide +kernel)
theorem dcX5_strip_85 : decode cX5_strip 85 = .ok (.getfield 39, 3) := dw_at cX5_strip_k3 (p := 11) rfl (by decide +kernel)
theorem dcX5_strip_88 : decode cX5_strip 88 = .ok (.if_icmp .ne 16, 3) := dw_at cX5_strip_k3 (p := 14) rfl (by decide +kernel)
theorem dcX5_strip_91 : decode cX5_strip 91 = .ok (.aload_n 0, 1) := dw_at cX5_strip_k3 (p := 17) rfl (by decide +kernel)
theorem dcX5_strip_92 : decode cX5_strip 92 = .ok (.dup, 1) := dw_at cX5_strip_k3 (p := 18) rfl (by decide +kernel)
theorem dcX5_strip_93 : decode cX5_strip 93 = .ok (.getfield 32, 3) := dw_at cX5_strip_k3 (p := 19) rfl (by decide +kernel)
theorem dcX5_strip_96 : decode cX5_strip 96 = .ok (.iconst 1, 1) := dw_at cX5_strip_k3 (p := 22) rfl (by decide +kernel)
theorem dcX5_strip_97 : decode cX5_strip 97 = .ok (.isub, 1) := dw_at cX5_strip_k3 (p := 23) rfl (by decide +kernel)
theorem dcX5_strip_98 : decode cX5_strip 98 = .ok (.putfield 32, 3) := dw_at cX5_strip_k3 (p := 24) rfl (by decide +kernel)
theorem dcX5_strip_101 : decode cX5_strip 101 = .ok (.goto (-35), 3) := dw_at cX5_strip_k3 (p := 27) rfl (by decide +kernel)
theorem dcX5_strip_104 : decode cX5_strip 104 = .ok (.return_, 1) := dw_at cX5_strip_k3 (p := 30) rfl (by decide +kernel)
def cm_X5_strip_0 (vl : Nat → Nat) (K : Nat) (go : Nat → Int32 → Nat → ow_MS → Option ow_MS) (x1 : Int32) (r0 : Nat) (z : ow_MS) : Option ow_MS :=
 go 1 0 r0 z
def cm_X5_strip_1 (vl : Nat → Nat) (K : Nat) (go : Nat → Int32 → Nat → ow_MS → Option ow_MS) (x1 : Int32) (r0 : Nat) (z : ow_MS) : Option ow_MS :=
 rdF z (r0 + 3) fun v1 => (if v1 ≤ x1 then go 2 x1 r0 z
 else crI (cX vl) z (r0 + 4) x1 fun v2 => rdF z (r0 + 6) fun v3 => (if v2 = v3 then go 1 (x1 + 1) r0 z
 else go 2 x1 r0 z))
def cm_X5_strip_2 (vl : Nat → Nat) (K : Nat) (go : Nat → Int32 → Nat → ow_MS → Option ow_MS) (x1 : Int32) (r0 : Nat) (z : ow_MS) : Option ow_MS :=
 rdF z (r0 + 2) fun v4 => wrF z (r0 + 2) (v4 + x1) fun z5 => rdF z5 (r0 + 3) fun v6 => wrF z5 (r0 + 3) (v6 - x1) fun z7 => rdF z7 (r0 + 3) fun v8 => cpI (cX vl) z7 (r0 + 4) x1 (r0 + 4) 0 v8 fun z9 => go 3 x1 r0 z9
def cm_X5_strip_3 (vl : Nat → Nat) (K : Nat) (go : Nat → Int32 → Nat → ow_MS → Option ow_MS) (x1 : Int32) (r0 : Nat) (z : ow_MS) : Option ow_MS :=
 rdF z (r0 + 3) fun v10 => (if v10 ≤ 0 then some z
 else rdF z (r0 + 3) fun v11 => crI (cX vl) z (r0 + 4) (v11 - 1) fun v12 => rdF z (r0 + 5) fun v13 => (if v12 = v13 then rdF z (r0 + 3) fun v14 => wrF z (r0 + 3) (v14 - 1) fun z15 => go 3 x1 r0 z15
 else some z))
def cb_X5_strip (vl : Nat → Nat) (K : Nat) (go : Nat → Int32 → Nat → ow_MS → Option ow_MS) (L : Nat) (x1 : Int32) (r0 : Nat) (z : ow_MS) : Option ow_MS := match L with
  | 0 => cm_X5_strip_0 vl K go x1 r0 z
  | 1 => cm_X5_strip_1 vl K go x1 r0 z
  | 2 => cm_X5_strip_2 vl K go x1 r0 z
  | 3 => cm_X5_strip_3 vl K go x1 r0 z
  | _ => none
def c_X5_strip (vl : Nat → Nat) (K : Nat) : Nat → Nat → Int32 → Nat → ow_MS → Option ow_MS
  | 0 => fun _ _ _ _ => none
  | k + 1 => cb_X5_strip vl K (c_X5_strip vl K k)
def ce_X5_strip (vl : Nat → Nat) (K : Nat) (r0 : Nat) (z : ow_MS) : Option ow_MS := c_X5_strip vl K K 0 0 r0 z
abbrev wc_X5_strip : List Cond := .code yX5_strip cX5_strip 2 none :: wC
theorem cdd_X5_strip : yX5_strip.cls = RX5 ∧ yX5_strip.cls ≠ "java/lang/invoke/MethodHandle" ∧ yX5_strip.cls ≠ "java/lang/invoke/VarHandle" ∧ (parseMethodDescriptor yX5_strip.desc).map (fun d => d.parameters.length) = some 0 := by decide +kernel
set_option maxHeartbeats 4000000 in
set_option maxRecDepth 100000 in
theorem kc_X5_strip (l : Launch) (D : va_G) (q : Nat → ClassId) (vl u : Nat → Nat) (hU0 : tw_inj (cX vl) u) (K : Nat) (r0 : Nat) (hr0 : cw_X5 r0) (z z1 : ow_MS) (hq : ce_X5_strip vl K r0 z = some z1) : Met l yX5_strip wc_X5_strip ({ frames := 1, cells := 0, slots := 0, locals := 60 } : Room) (va_Pc [.ref (u r0)] (cw_pre D q vl u z)) (va_Qv (fun (_ : Unit) => True) (fun _ t => va_P D vwCl (uw (cX vl) q u z1) t.heap) (tw_A (cX vl) u)) 0 0 (tw_A (cX vl) u) := by
  refine Met.ofW (cc := cX5_strip) (maxL := 2) (ret := none) (by decide) rfl ?_
  intro p e s m args below meth c s₁ B hml hv
  obtain ⟨rfl, hP, hK⟩ := hv
  have hx := B.exec
  have hb := B.bytes
  have hr := B.returns
  have hts := atoms_spec (ws := wc_X5_strip) B.pre
  have hT : ∀ w ∈ wC, w.before ([.ref (u r0)] : List Value).toArray s = true := fun w h => hts w (List.mem_cons_of_mem _ h)
  have hown : s.vm.findClass RX5 = some m.cls := findClass_of_methodNamed B.named
  have hlocks := B.notSynchronized
  have hU : uw_inj (cX vl) u (tw_A (cX vl) u) := ⟨hU0, fun h hh => ⟨h, hh, rfl⟩⟩
  have hM : uw_M D vwCl (cX vl) q (tw_A (cX vl) u) s.heap u z s.heap [] := ⟨hP, va_S.rf⟩
  have hl := lv_entry ([.ref (u r0)]) (n := 2) (Nat.le_of_ble_eq_true rfl)
  rw [lg_entry_eq]
  generalize (lg_sl ([.ref (u r0)]) ++ List.replicate (2 - (lg_sl ([.ref (u r0)])).length) Slot.unset).toArray = ls at hl ⊢
  have hl : lv_has ls 2 [(0, .ref (u r0))] := hl
  refine ow_named (fun QQ hQQ => ?_)
  generalize ([.ref (u r0)] : List Value).toArray = args at hts hT hQQ ⊢
  have key : ∀ k : Nat, (∀ (x1 : Int32) (r0 : Nat) (z : ow_MS) (H : Heap) (locs : List Loc) (ls : Array Slot), cw_X5 r0 → uw_M D vwCl (cX vl) q (tw_A (cX vl) u) s.heap u z H locs → lv_has ls 2 [(0, .ref (u r0))] → c_X5_strip vl K k 0 x1 r0 z = some z1 → W p l e ({ frames := 1, cells := 0, slots := 0, locals := 60 } : Room) s m args below meth c H locs 0 0 QQ (F0 m 0 ls [])) ∧ (∀ (x1 : Int32) (r0 : Nat) (z : ow_MS) (H : Heap) (locs : List Loc) (ls : Array Slot), cw_X5 r0 → uw_M D vwCl (cX vl) q (tw_A (cX vl) u) s.heap u z H locs → lv_has ls 2 [(0, .ref (u r0)), (1, .int x1)] → c_X5_strip vl K k 1 x1 r0 z = some z1 → W p l e ({ frames := 1, cells := 0, slots := 0, locals := 60 } : Room) s m args below meth c H locs 0 0 QQ (F0 m 2 ls [])) ∧ (∀ (x1 : Int32) (r0 : Nat) (z : ow_MS) (H : Heap) (locs : List Loc) (ls : Array Slot), cw_X5 r0 → uw_M D vwCl (cX vl) q (tw_A (cX vl) u) s.heap u z H locs → lv_has ls 2 [(0, .ref (u r0)), (1, .int x1)] → c_X5_strip vl K k 2 x1 r0 z = some z1 → W p l e ({ frames := 1, cells := 0, slots := 0, locals := 60 } : Room) s m args below meth c H locs 0 0 QQ (F0 m 29 ls [])) ∧ (∀ (x1 : Int32) (r0 : Nat) (z : ow_MS) (H : Heap) (locs : List Loc) (ls : Array Slot), cw_X5 r0 → uw_M D vwCl (cX vl) q (tw_A (cX vl) u) s.heap u z H locs → lv_has ls 2 [(0, .ref (u r0)), (1, .int x1)] → c_X5_strip vl K k 3 x1 r0 z = some z1 → W p l e ({ frames := 1, cells := 0, slots := 0, locals := 60 } : Room) s m args below meth c H locs 0 0 QQ (F0 m 66 ls [])) := by
    intro k
    induction k with
    | zero => exact ⟨fun _ _ _ _ _ _ _ _ _ hq => cw_no hq, fun _ _ _ _ _ _ _ _ _ hq => cw_no hq, fun _ _ _ _ _ _ _ _ _ hq => cw_no hq, fun _ _ _ _ _ _ _ _ _ hq => cw_no hq⟩
    | succ k ih =>
      obtain ⟨ih_0, ih_1, ih_2, ih_3⟩ := ih
      refine ⟨?_, ?_, ?_, ?_⟩
      · intro x1 r0 z H locs ls hr0 hM hl hq
        have hq : cm_X5_strip_0 vl K (c_X5_strip vl K k) x1 r0 z = some z1 := hq
        unfold cm_X5_strip_0 at hq
        refine lv_iconst (v := 0) hx hb dcX5_strip_0 (by decide) ?_
        refine lv_istore_n (lv' := [(1, .int 0), (0, .ref (u r0))]) hx hb dcX5_strip_1 rfl hl (by decide) rfl (fun ls hl => ?_)
        exact ih_1 0 r0 z H locs ls hr0 hM (lv_sub hl [1, 0] rfl) hq
      · intro x1 r0 z H locs ls hr0 hM hl hq
        have hq : cm_X5_strip_1 vl K (c_X5_strip vl K k) x1 r0 z = some z1 := hq
        unfold cm_X5_strip_1 at hq
        refine lv_iload_n hx hb dcX5_strip_2 rfl (lv_at hl 1 rfl) ?_
        refine lv_aload_n hx hb dcX5_strip_3 rfl (lv_at hl 0 rfl) ?_
        refine vgX5_32 hx hb hT hown hK hM hr0 hq dcX5_strip_4 (fun v1 hq => ?_)
        refine lv_icmp_ge (tgt := 29) hx hb dcX5_strip_7 (by decide) (fun hc => ?_) (fun hc => ?_)
        · have hq := tw_it hq hc
          exact ih_2 x1 r0 z H locs ls hr0 hM (lv_sub hl [0, 1] rfl) hq
        · have hq := tw_if hq hc
          refine lv_aload_n hx hb dcX5_strip_10 rfl (lv_at hl 0 rfl) ?_
          refine vgX5_11 hx hb hT hown hK hM hr0 dcX5_strip_11 ?_
          refine lv_iload_n hx hb dcX5_strip_14 rfl (lv_at hl 1 rfl) ?_
          refine uw_iald cX_ok hx hb hK hM (cr_X5_3 hr0) hq dcX5_strip_15 (fun v2 hq => ?_)
          refine lv_aload_n hx hb dcX5_strip_16 rfl (lv_at hl 0 rfl) ?_
          refine vgX5_45 hx hb hT hown hK hM hr0 hq dcX5_strip_17 (fun v3 hq => ?_)
          refine lv_icmp_ne (tgt := 29) hx hb dcX5_strip_20 (by decide) (fun hc => ?_) (fun hc => ?_)
          · have hq := tw_if hq hc
            exact ih_2 x1 r0 z H locs ls hr0 hM (lv_sub hl [0, 1] rfl) hq
          · have hq := tw_it hq hc
            refine lv_iinc (v := (x1 + 1)) (lv' := [(1, .int (x1 + 1)), (0, .ref (u r0))]) hx hb dcX5_strip_23 hl (k := 1) rfl rfl (by decide) rfl (fun ls hl => ?_)
            refine lv_goto (tgt := 2) hx hb dcX5_strip_26 (by decide) ?_
            exact ih_1 (x1 + 1) r0 z H locs ls hr0 hM (lv_sub hl [1, 0] rfl) hq
      · intro x1 r0 z H locs ls hr0 hM hl hq
        have hq : cm_X5_strip_2 vl K (c_X5_strip vl K k) x1 r0 z = some z1 := hq
        unfold cm_X5_strip_2 at hq
        refine lv_aload_n hx hb dcX5_strip_29 rfl (lv_at hl 0 rfl) ?_
        refine lv_dup hx hb dcX5_strip_30 rfl ?_
        refine vgX5_29 hx hb hT hown hK hM hr0 hq dcX5_strip_31 (fun v4 hq => ?_)
        refine lv_iload_n hx hb dcX5_strip_34 rfl (lv_at hl 1 rfl) ?_
        refine lv_iadd hx hb dcX5_strip_35 ?_
        refine vpX5_29 hx hb hT hown hK hM hU hr0 hq dcX5_strip_36 (fun z5 H locs hM hq => ?_)
        refine lv_aload_n hx hb dcX5_strip_39 rfl (lv_at hl 0 rfl) ?_
        refine lv_dup hx hb dcX5_strip_40 rfl ?_
        refine vgX5_32 hx hb hT hown hK hM hr0 hq dcX5_strip_41 (fun v6 hq => ?_)
        refine lv_iload_n hx hb dcX5_strip_44 rfl (lv_at hl 1 rfl) ?_
        refine lv_isub hx hb dcX5_strip_45 ?_
        refine vpX5_32 hx hb hT hown hK hM hU hr0 hq dcX5_strip_46 (fun z7 H locs hM hq => ?_)
        refine lv_aload_n hx hb dcX5_strip_49 rfl (lv_at hl 0 rfl) ?_
        refine vgX5_11 hx hb hT hown hK hM hr0 dcX5_strip_50 ?_
        refine lv_iload_n hx hb dcX5_strip_53 rfl (lv_at hl 1 rfl) ?_
        refine lv_aload_n hx hb dcX5_strip_54 rfl (lv_at hl 0 rfl) ?_
        refine vgX5_11 hx hb hT hown hK hM hr0 dcX5_strip_55 ?_
        refine lv_iconst (v := 0) hx hb dcX5_strip_58 (by decide) ?_
        refine lv_aload_n hx hb dcX5_strip_59 rfl (lv_at hl 0 rfl) ?_
        refine vgX5_32 hx hb hT hown hK hM hr0 hq dcX5_strip_60 (fun v8 hq => ?_)
        refine uw_cpI cX_ok hU hx hb (by rw [hml]; exact hl.1.symm) hown (hT _ xq_425) (hT _ xq_130) (hT _ xq_131) (hT _ xq_132) hK hM (cr_X5_3 hr0) (cr_X5_3 hr0) hq (Nat.le_of_ble_eq_true rfl) (by decide) dcX5_strip_63 (fun z9 H locs hM hq => ?_)
        exact ih_3 x1 r0 z9 H locs ls hr0 hM (lv_sub hl [0, 1] rfl) hq
      · intro x1 r0 z H locs ls hr0 hM hl hq
        have hq : cm_X5_strip_3 vl K (c_X5_strip vl K k) x1 r0 z = some z1 := hq
        unfold cm_X5_strip_3 at hq
        refine lv_aload_n hx hb dcX5_strip_66 rfl (lv_at hl 0 rfl) ?_
        refine vgX5_32 hx hb hT hown hK hM hr0 hq dcX5_strip_67 (fun v10 hq => ?_)
        refine lv_if_le (tgt := 104) hx hb dcX5_strip_70 (by decide) (fun hc => ?_) (fun hc => ?_)
        · have hq := tw_it hq hc
          exact cw_vret hx hb hr hlocks hM hq hQQ dcX5_strip_104
        · have hq := tw_if hq hc
          refine lv_aload_n hx hb dcX5_strip_73 rfl (lv_at hl 0 rfl) ?_
          refine vgX5_11 hx hb hT hown hK hM hr0 dcX5_strip_74 ?_
          refine lv_aload_n hx hb dcX5_strip_77 rfl (lv_at hl 0 rfl) ?_
          refine vgX5_32 hx hb hT hown hK hM hr0 hq dcX5_strip_78 (fun v11 hq => ?_)
          refine lv_iconst (v := 1) hx hb dcX5_strip_81 (by decide) ?_
          refine lv_isub hx hb dcX5_strip_82 ?_
          refine uw_iald cX_ok hx hb hK hM (cr_X5_3 hr0) hq dcX5_strip_83 (fun v12 hq => ?_)
          refine lv_aload_n hx hb dcX5_strip_84 rfl (lv_at hl 0 rfl) ?_
          refine vgX5_39 hx hb hT hown hK hM hr0 hq dcX5_strip_85 (fun v13 hq => ?_)
          refine lv_icmp_ne (tgt := 104) hx hb dcX5_strip_88 (by decide) (fun hc => ?_) (fun hc => ?_)
          · have hq := tw_if hq hc
            exact cw_vret hx hb hr hlocks hM hq hQQ dcX5_strip_104
          · have hq := tw_it hq hc
            refine lv_aload_n hx hb dcX5_strip_91 rfl (lv_at hl 0 rfl) ?_
            refine lv_dup hx hb dcX5_strip_92 rfl ?_
            refine vgX5_32 hx hb hT hown hK hM hr0 hq dcX5_strip_93 (fun v14 hq => ?_)
            refine lv_iconst (v := 1) hx hb dcX5_strip_96 (by decide) ?_
            refine lv_isub hx hb dcX5_strip_97 ?_
            refine vpX5_32 hx hb hT hown hK hM hU hr0 hq dcX5_strip_98 (fun z15 H locs hM hq => ?_)
            refine lv_goto (tgt := 66) hx hb dcX5_strip_101 (by decide) ?_
            exact ih_3 x1 r0 z15 H locs ls hr0 hM (lv_sub hl [0, 1] rfl) hq
  exact (key K).1 0 r0 z s.heap [] ls hr0 hM (lv_sub hl [0] rfl) hq
theorem dcX5_movable_0 : decode cX5_movable 0 = .ok (.iconst 0, 1) := dw_at cX5_movable_k0 (p := 0) rfl (by decide +kernel)
theorem dcX5_movable_1 : decode cX5_movable 1 = .ok (.istore_n 3, 1) := dw_at cX5_movable_k0 (p := 1) rfl (by decide +kernel)
theorem dcX5_movable_2 : decode cX5_movable 2 = .ok (.iload_n 3, 1) := dw_at cX5_movable_k0 (p := 2) rfl (by decide +kernel)
theorem dcX5_movable_3 : decode cX5_movable 3 = .ok (.aload_n 0, 1) := dw_at cX5_movable_k0 (p := 3) rfl (by decide +kernel)
theorem dcX5_movable_4 : decode cX5_movable 4 = .ok (.getfield 25, 3) := dw_at cX5_movable_k0 (p := 4) rfl (by decide +kernel)
theorem dcX5_movable_7 : decode cX5_movable 7 = .ok (.iconst 1, 1) := dw_at cX5_movable_k0 (p := 7) rfl (by decide +kernel)
theorem dcX5_movable_8 : decode cX5_movable 8 = .ok (.isub, 1) := dw_at cX5_movable_k0 (p := 8) rfl (by decide +kernel)
theorem dcX5_movable_9 : decode cX5_movable 9 = .ok (.if_icmp .ge 41, 3) := dw_at cX5_movable_k0 (p := 9) rfl (by decide +kernel)
theorem dcX5_movable_12 : decode cX5_movable 12 = .ok (.iload_n 2, 1) := dw_at cX5_movable_k0 (p := 12) rfl (by decide +kernel)
theorem dcX5_movable_13 : decode cX5_movable 13 = .ok (.iload_n 3, 1) := dw_at cX5_movable_k0 (p := 13) rfl (by decide +kernel)
theorem dcX5_movable_14 : decode cX5_movable 14 = .ok (.invokestatic 15, 3) := dw_at cX5_movable_k0 (p := 14) rfl (by decide +kernel)
theorem dcX5_movable_17 : decode cX5_movable 17 = .ok (.iload_n 2, 1) := dw_at cX5_movable_k0 (p := 17) rfl (by decide +kernel)
theorem dcX5_movable_18 : decode cX5_movable 18 = .ok (.iload_n 3, 1) := dw_at cX5_movable_k0 (p := 18) rfl (by decide +kernel)
theorem dcX5_movable_19 : decode cX5_movable 19 = .ok (.iconst 1, 1) := dw_at cX5_movable_k0 (p := 19) rfl (by decide +kernel)
theorem dcX5_movable_20 : decode cX5_movable 20 = .ok (.iadd, 1) := dw_at cX5_movable_k0 (p := 20) rfl (by decide +kernel)
theorem dcX5_movable_21 : decode cX5_movable 21 = .ok (.invokestatic 15, 3) := dw_at cX5_movable_k0 (p := 21) rfl (by decide +kernel)
theorem dcX5_movable_24 : decode cX5_movable 24 = .ok (.if_icmp .le 20, 3) := dw_at cX5_movable_k1 (p := 0) rfl (by decide +kernel)
theorem dcX5_movable_27 : decode cX5_movable 27 = .ok (.iload_n 1, 1) := dw_at cX5_movable_k1 (p := 3) rfl (by decide +kernel)
theorem dcX5_movable_28 : decode cX5_movable 28 = .ok (.iload_n 3, 1) := dw_at cX5_movable_k1 (p := 4) rfl (by decide +kernel)
theorem dcX5_movable_29 : decode cX5_movable 29 = .ok (.invokestatic 15, 3) := dw_at cX5_movable_k1 (p := 5) rfl (by decide +kernel)
theorem dcX5_movable_32 : decode cX5_movable 32 = .ok (.iload_n 1, 1) := dw_at cX5_movable_k1 (p := 8) rfl (by decide +kernel)
theorem dcX5_movable_33 : decode cX5_movable 33 = .ok (.iload_n 3, 1) := dw_at cX5_movable_k1 (p := 9) rfl (by decide +kernel)
theorem dcX5_movable_34 : decode cX5_movable 34 = .ok (.iconst 1, 1) := dw_at cX5_movable_k1 (p := 10) rfl (by decide +kernel)
theorem dcX5_movable_35 : decode cX5_movable 35 = .ok (.iadd, 1) := dw_at cX5_movable_k1 (p := 11) rfl (by decide +kernel)
theorem dcX5_movable_36 : decode cX5_movable 36 = .ok (.invokestatic 15, 3) := dw_at cX5_movable_k1 (p := 12) rfl (by decide +kernel)
theorem dcX5_movable_39 : decode cX5_movable 39 = .ok (.if_icmp .ge 5, 3) := dw_at cX5_movable_k1 (p := 15) rfl (by decide +kernel)
theorem dcX5_movable_42 : decode cX5_movable 42 = .ok (.iload_n 3, 1) := dw_at cX5_movable_k1 (p := 18) rfl (by decide +kernel)
theorem dcX5_movable_43 : decode cX5_movable 43 = .ok (.ireturn, 1) := dw_at cX5_movable_k1 (p := 19) rfl (by decide +kernel)
theorem dcX5_movable_44 : decode cX5_movable 44 = .ok (.iinc 3 1, 3) := dw_at cX5_movable_k1 (p := 20) rfl (by decide +kernel)
theorem dcX5_movable_47 : decode cX5_movable 47 = .ok (.goto (-45), 3) := dw_at cX5_movable_k1 (p := 23) rfl (by decide +kernel)
theorem dcX5_movable_50 : decode cX5_movable 50 = .ok (.iconst (-1), 1) := dw_at cX5_movable_k1 (p := 26) rfl (by decide +kernel)
theorem dcX5_movable_51 : decode cX5_movable 51 = .ok (.ireturn, 1) := dw_at cX5_movable_k1 (p := 27) rfl (by decide +kernel)
def cm_X5_movable_0 (vl : Nat → Nat) (K : Nat) (go : Nat → Int32 → Int32 → Int32 → Nat → ow_MS → Option (Int32 × ow_MS)) (x1 : Int32) (x2 : Int32) (x3 : Int32) (r0 : Nat) (z : ow_MS) : Option (Int32 × ow_MS) :=
 go 1 x1 x2 0 r0 z
def cm_X5_movable_1 (vl : Nat → Nat) (K : Nat) (go : Nat → Int32 → Int32 → Int32 → Nat → ow_MS → Option (Int32 × ow_MS)) (x1 : Int32) (x2 : Int32) (x3 : Int32) (r0 : Nat) (z : ow_MS) : Option (Int32 × ow_MS) :=
 rdF z (r0 + 1) fun v1 => (if (v1 - 1) ≤ x3 then some ((-1), z)
 else cs1 (ce_X5_image vl K x2 x3 z) fun v3 z2 => cs1 (ce_X5_image vl K x2 (x3 + 1) z2) fun v5 z4 => (if v3 ≤ v5 then go 2 x1 x2 x3 r0 z4
 else cs1 (ce_X5_image vl K x1 x3 z4) fun v7 z6 => cs1 (ce_X5_image vl K x1 (x3 + 1) z6) fun v9 z8 => (if v9 ≤ v7 then go 2 x1 x2 x3 r0 z8
 else some (x3, z8))))
def cm_X5_movable_2 (vl : Nat → Nat) (K : Nat) (go : Nat → Int32 → Int32 → Int32 → Nat → ow_MS → Option (Int32 × ow_MS)) (x1 : Int32) (x2 : Int32) (x3 : Int32) (r0 : Nat) (z : ow_MS) : Option (Int32 × ow_MS) :=
 go 1 x1 x2 (x3 + 1) r0 z
def cb_X5_movable (vl : Nat → Nat) (K : Nat) (go : Nat → Int32 → Int32 → Int32 → Nat → ow_MS → Option (Int32 × ow_MS)) (L : Nat) (x1 : Int32) (x2 : Int32) (x3 : Int32) (r0 : Nat) (z : ow_MS) : Option (Int32 × ow_MS) := match L with
  | 0 => cm_X5_movable_0 vl K go x1 x2 x3 r0 z
  | 1 => cm_X5_movable_1 vl K go x1 x2 x3 r0 z
  | 2 => cm_X5_movable_2 vl K go x1 x2 x3 r0 z
  | _ => none
def c_X5_movable (vl : Nat → Nat) (K : Nat) : Nat → Nat → Int32 → Int32 → Int32 → Nat → ow_MS → Option (Int32 × ow_MS)
  | 0 => fun _ _ _ _ _ _ => none
  | k + 1 => cb_X5_movable vl K (c_X5_movable vl K k)
def ce_X5_movable (vl : Nat → Nat) (K : Nat) (r0 : Nat) (x1 : Int32) (x2 : Int32) (z : ow_MS) : Option (Int32 × ow_MS) := c_X5_movable vl K K 0 x1 x2 0 r0 z
abbrev wc_X5_movable : List Cond := .code yX5_movable cX5_movable 4 (some .int) :: wC
theorem cdd_X5_movable : yX5_movable.cls = RX5 ∧ yX5_movable.cls ≠ "java/lang/invoke/MethodHandle" ∧ yX5_movable.cls ≠ "java/lang/invoke/VarHandle" ∧ (parseMethodDescriptor yX5_movable.desc).map (fun d => d.parameters.length) = some 2 := by decide +kernel
set_option maxHeartbeats 4000000 in
set_option maxRecDepth 100000 in
theorem kc_X5_movable (l : Launch) (D : va_G) (q : Nat → ClassId) (vl u : Nat → Nat) (hU0 : tw_inj (cX vl) u) (K : Nat) (r0 : Nat) (x1 : Int32) (x2 : Int32) (hr0 : cw_X5 r0) (z z1 : ow_MS) (r : Int32) (hq : ce_X5_movable vl K r0 x1 x2 z = some (r, z1)) : Met l yX5_movable wc_X5_movable ({ frames := 1, cells := 0, slots := 0, locals := 21 } : Room) (va_Pc [.ref (u r0), .int x1, .int x2] (cw_pre D q vl u z)) (va_Qi (fun x (_ : Unit) => x = r) (fun _ t => va_P D vwCl (uw (cX vl) q u z1) t.heap) (tw_A (cX vl) u)) 0 0 (tw_A (cX vl) u) := by
  refine Met.ofW (cc := cX5_movable) (maxL := 4) (ret := (some .int)) (by decide) rfl ?_
  intro p e s m args below meth c s₁ B hml hv
  obtain ⟨rfl, hP, hK⟩ := hv
  have hx := B.exec
  have hb := B.bytes
  have hr := B.returns
  have hts := atoms_spec (ws := wc_X5_movable) B.pre
  have hT : ∀ w ∈ wC, w.before ([.ref (u r0), .int x1, .int x2] : List Value).toArray s = true := fun w h => hts w (List.mem_cons_of_mem _ h)
  have hown : s.vm.findClass RX5 = some m.cls := findClass_of_methodNamed B.named
  have hlocks := B.notSynchronized
  have hU : uw_inj (cX vl) u (tw_A (cX vl) u) := ⟨hU0, fun h hh => ⟨h, hh, rfl⟩⟩
  have hM : uw_M D vwCl (cX vl) q (tw_A (cX vl) u) s.heap u z s.heap [] := ⟨hP, va_S.rf⟩
  have hl := lv_entry ([.ref (u r0), .int x1, .int x2]) (n := 4) (Nat.le_of_ble_eq_true rfl)
  rw [lg_entry_eq]
  generalize (lg_sl ([.ref (u r0), .int x1, .int x2]) ++ List.replicate (4 - (lg_sl ([.ref (u r0), .int x1, .int x2])).length) Slot.unset).toArray = ls at hl ⊢
  have hl : lv_has ls 4 [(0, .ref (u r0)), (1, .int x1), (2, .int x2)] := hl
  refine ow_named (fun QQ hQQ => ?_)
  generalize ([.ref (u r0), .int x1, .int x2] : List Value).toArray = args at hts hT hQQ ⊢
  have key : ∀ k : Nat, (∀ (x1 : Int32) (x2 : Int32) (x3 : Int32) (r0 : Nat) (z : ow_MS) (H : Heap) (locs : List Loc) (ls : Array Slot), cw_X5 r0 → uw_M D vwCl (cX vl) q (tw_A (cX vl) u) s.heap u z H locs → lv_has ls 4 [(0, .ref (u r0)), (1, .int x1), (2, .int x2)] → c_X5_movable vl K k 0 x1 x2 x3 r0 z = some (r, z1) → W p l e ({ frames := 1, cells := 0, slots := 0, locals := 21 } : Room) s m args below meth c H locs 0 0 QQ (F0 m 0 ls [])) ∧ (∀ (x1 : Int32) (x2 : Int32) (x3 : Int32) (r0 : Nat) (z : ow_MS) (H : Heap) (locs : List Loc) (ls : Array Slot), cw_X5 r0 → uw_M D vwCl (cX vl) q (tw_A (cX vl) u) s.heap u z H locs → lv_has ls 4 [(0, .ref (u r0)), (1, .int x1), (2, .int x2), (3, .int x3)] → c_X5_movable vl K k 1 x1 x2 x3 r0 z = some (r, z1) → W p l e ({ frames := 1, cells := 0, slots := 0, locals := 21 } : Room) s m args below meth c H locs 0 0 QQ (F0 m 2 ls [])) ∧ (∀ (x1 : Int32) (x2 : Int32) (x3 : Int32) (r0 : Nat) (z : ow_MS) (H : Heap) (locs : List Loc) (ls : Array Slot), cw_X5 r0 → uw_M D vwCl (cX vl) q (tw_A (cX vl) u) s.heap u z H locs → lv_has ls 4 [(0, .ref (u r0)), (1, .int x1), (2, .int x2), (3, .int x3)] → c_X5_movable vl K k 2 x1 x2 x3 r0 z = some (r, z1) → W p l e ({ frames := 1, cells := 0, slots := 0, locals := 21 } : Room) s m args below meth c H locs 0 0 QQ (F0 m 44 ls [])) := by
    intro k
    induction k with
    | zero => exact ⟨fun _ _ _ _ _ _ _ _ _ _ _ hq => cw_no hq, fun _ _ _ _ _ _ _ _ _ _ _ hq => cw_no hq, fun _ _ _ _ _ _ _ _ _ _ _ hq => cw_no hq⟩
    | succ k ih =>
      obtain ⟨ih_0, ih_1, ih_2⟩ := ih
      refine ⟨?_, ?_, ?_⟩
      · intro x1 x2 x3 r0 z H locs ls hr0 hM hl hq
        have hq : cm_X5_movable_0 vl K (c_X5_movable vl K k) x1 x2 x3 r0 z = some (r, z1) := hq
        unfold cm_X5_movable_0 at hq
        refine lv_iconst (v := 0) hx hb dcX5_movable_0 (by decide) ?_
        refine lv_istore_n (lv' := [(3, .int 0), (0, .ref (u r0)), (1, .int x1), (2, .int x2)]) hx hb dcX5_movable_1 rfl hl (by decide) rfl (fun ls hl => ?_)
        exact ih_1 x1 x2 0 r0 z H locs ls hr0 hM (lv_sub hl [1, 2, 3, 0] rfl) hq
      · intro x1 x2 x3 r0 z H locs ls hr0 hM hl hq
        have hq : cm_X5_movable_1 vl K (c_X5_movable vl K k) x1 x2 x3 r0 z = some (r, z1) := hq
        unfold cm_X5_movable_1 at hq
        refine lv_iload_n hx hb dcX5_movable_2 rfl (lv_at hl 3 rfl) ?_
        refine lv_aload_n hx hb dcX5_movable_3 rfl (lv_at hl 0 rfl) ?_
        refine vgX5_25 hx hb hT hown hK hM hr0 hq dcX5_movable_4 (fun v1 hq => ?_)
        refine lv_iconst (v := 1) hx hb dcX5_movable_7 (by decide) ?_
        refine lv_isub hx hb dcX5_movable_8 ?_
        refine lv_icmp_ge (tgt := 50) hx hb dcX5_movable_9 (by decide) (fun hc => ?_) (fun hc => ?_)
        · have hq := tw_it hq hc
          refine lv_iconst (v := (-1)) hx hb dcX5_movable_50 (by decide) ?_
          exact cw_iret hx hb hr hlocks hM hq hQQ dcX5_movable_51
        · have hq := tw_if hq hc
          refine lv_iload_n hx hb dcX5_movable_12 rfl (lv_at hl 2 rfl) ?_
          refine lv_iload_n hx hb dcX5_movable_13 rfl (lv_at hl 3 rfl) ?_
          obtain ⟨v3, z2, hcq, hq⟩ := tw_cl1 hq
          refine uw_cali hU hM (va_runS (As := [.int x2, .int x3]) (rest := []) ⟨hx, hb, hml, hown, hts⟩ (kc_X5_image l D q vl u hU.1 K x2 x3 z z2 v3 hcq) (va_cwS 2 hts (tw_gS wC_good xq_401 xq_402 xq_403 xq_400) rfl rfl rfl cdd_X5_image ⟨(Nat.le_of_ble_eq_true rfl), (Nat.le_of_ble_eq_true rfl)⟩) (cw_preS hK hM) rfl rfl hl.1 rfl (lv_room (Nat.le_of_ble_eq_true rfl)) dcX5_movable_14 ⟨(Nat.le_of_ble_eq_true rfl), (Nat.le_of_ble_eq_true rfl)⟩) (fun H locs hM => ?_)
          refine lv_iload_n hx hb dcX5_movable_17 rfl (lv_at hl 2 rfl) ?_
          refine lv_iload_n hx hb dcX5_movable_18 rfl (lv_at hl 3 rfl) ?_
          refine lv_iconst (v := 1) hx hb dcX5_movable_19 (by decide) ?_
          refine lv_iadd hx hb dcX5_movable_20 ?_
          obtain ⟨v5, z4, hcq, hq⟩ := tw_cl1 hq
          refine uw_cali hU hM (va_runS (As := [.int x2, .int (x3 + 1)]) (rest := [.int v3]) ⟨hx, hb, hml, hown, hts⟩ (kc_X5_image l D q vl u hU.1 K x2 (x3 + 1) z2 z4 v5 hcq) (va_cwS 2 hts (tw_gS wC_good xq_401 xq_402 xq_403 xq_400) rfl rfl rfl cdd_X5_image ⟨(Nat.le_of_ble_eq_true rfl), (Nat.le_of_ble_eq_true rfl)⟩) (cw_preS hK hM) rfl rfl hl.1 rfl (lv_room (Nat.le_of_ble_eq_true rfl)) dcX5_movable_21 ⟨(Nat.le_of_ble_eq_true rfl), (Nat.le_of_ble_eq_true rfl)⟩) (fun H locs hM => ?_)
          refine lv_icmp_le (tgt := 44) hx hb dcX5_movable_24 (by decide) (fun hc => ?_) (fun hc => ?_)
          · have hq := tw_it hq hc
            exact ih_2 x1 x2 x3 r0 z4 H locs ls hr0 hM (lv_sub hl [0, 1, 2, 3] rfl) hq
          · have hq := tw_if hq hc
            refine lv_iload_n hx hb dcX5_movable_27 rfl (lv_at hl 1 rfl) ?_
            refine lv_iload_n hx hb dcX5_movable_28 rfl (lv_at hl 3 rfl) ?_
            obtain ⟨v7, z6, hcq, hq⟩ := tw_cl1 hq
            refine uw_cali hU hM (va_runS (As := [.int x1, .int x3]) (rest := []) ⟨hx, hb, hml, hown, hts⟩ (kc_X5_image l D q vl u hU.1 K x1 x3 z4 z6 v7 hcq) (va_cwS 2 hts (tw_gS wC_good xq_401 xq_402 xq_403 xq_400) rfl rfl rfl cdd_X5_image ⟨(Nat.le_of_ble_eq_true rfl), (Nat.le_of_ble_eq_true rfl)⟩) (cw_preS hK hM) rfl rfl hl.1 rfl (lv_room (Nat.le_of_ble_eq_true rfl)) dcX5_movable_29 ⟨(Nat.le_of_ble_eq_true rfl), (Nat.le_of_ble_eq_true rfl)⟩) (fun H locs hM => ?_)
            refine lv_iload_n hx hb dcX5_movable_32 rfl (lv_at hl 1 rfl) ?_
            refine lv_iload_n hx hb dcX5_movable_33 rfl (lv_at hl 3 rfl) ?_
            refine lv_iconst (v := 1) hx hb dcX5_movable_34 (by decide) ?_
            refine lv_iadd hx hb dcX5_movable_35 ?_
            obtain ⟨v9, z8, hcq, hq⟩ := tw_cl1 hq
            refine uw_cali hU hM (va_runS (As := [.int x1, .int (x3 + 1)]) (rest := [.int v7]) ⟨hx, hb, hml, hown, hts⟩ (kc_X5_image l D q vl u hU.1 K x1 (x3 + 1) z6 z8 v9 hcq) (va_cwS 2 hts (tw_gS wC_good xq_401 xq_402 xq_403 xq_400) rfl rfl rfl cdd_X5_image ⟨(Nat.le_of_ble_eq_true rfl), (Nat.le_of_ble_eq_true rfl)⟩) (cw_preS hK hM) rfl rfl hl.1 rfl (lv_room (Nat.le_of_ble_eq_true rfl)) dcX5_movable_36 ⟨(Nat.le_of_ble_eq_true rfl), (Nat.le_of_ble_eq_true rfl)⟩) (fun H locs hM => ?_)
            refine lv_icmp_ge (tgt := 44) hx hb dcX5_movable_39 (by decide) (fun hc => ?_) (fun hc => ?_)
            · have hq := tw_it hq hc
              exact ih_2 x1 x2 x3 r0 z8 H locs ls hr0 hM (lv_sub hl [0, 1, 2, 3] rfl) hq
            · have hq := tw_if hq hc
              refine lv_iload_n hx hb dcX5_movable_42 rfl (lv_at hl 3 rfl) ?_
              exact cw_iret hx hb hr hlocks hM hq hQQ dcX5_movable_43
      · intro x1 x2 x3 r0 z H locs ls hr0 hM hl hq
        have hq : cm_X5_movable_2 vl K (c_X5_movable vl K k) x1 x2 x3 r0 z = some (r, z1) := hq
        unfold cm_X5_movable_2 at hq
        refine lv_iinc (v := (x3 + 1)) (lv' := [(3, .int (x3 + 1)), (0, .ref (u r0)), (1, .int x1), (2, .int x2)]) hx hb dcX5_movable_44 hl (k := 3) rfl rfl (by decide) rfl (fun ls hl => ?_)
        refine lv_goto (tgt := 2) hx hb dcX5_movable_47 (by decide) ?_
        exact ih_1 x1 x2 (x3 + 1) r0 z H locs ls hr0 hM (lv_sub hl [1, 2, 3, 0] rfl) hq
  exact (key K).1 x1 x2 0 r0 z s.heap [] ls hr0 hM (lv_sub hl [0, 1, 2] rfl) hq
theorem dcX5_weigh_0 : decode cX5_weigh 0 = .ok (.aload_n 0, 1) := dw_at cX5_weigh_k0 (p := 0) rfl (by decide +kernel)
theorem dcX5_weigh_1 : decode cX5_weigh 1 = .ok (.getfield 11, 3) := dw_at cX5_weigh_k0 (p := 1) rfl (by decide +kernel)
theorem dcX5_weigh_4 : decode cX5_weigh 4 = .ok (.iload_n 1, 1) := dw_at cX5_weigh_k0 (p := 4) rfl (by decide +kernel)
theorem dcX5_weigh_5 : decode cX5_weigh 5 = .ok (.iaload, 1) := dw_at cX5_weigh_k0 (p := 5) rfl (by decide +kernel)
theorem dcX5_weigh_6 : decode cX5_weigh 6 = .ok (.aload_n 0, 1) := dw_at cX5_weigh_k0 (p := 6) rfl (by decide +kernel)
theorem dcX5_weigh_7 : decode cX5_weigh 7 = .ok (.getfield 25, 3) := dw_at cX5_weigh_k0 (p := 7) rfl (by decide +kernel)
theorem dcX5_weigh_10 : decode cX5_weigh 10 = .ok (.invokestatic 19, 3) := dw_at cX5_weigh_k0 (p := 10) rfl (by decide +kernel)
theorem dcX5_weigh_13 : decode cX5_weigh 13 = .ok (.istore_n 2, 1) := dw_at cX5_weigh_k0 (p := 13) rfl (by decide +kernel)
theorem dcX5_weigh_14 : decode cX5_weigh 14 = .ok (.aload_n 0, 1) := dw_at cX5_weigh_k0 (p := 14) rfl (by decide +kernel)
theorem dcX5_weigh_15 : decode cX5_weigh 15 = .ok (.getfield 11, 3) := dw_at cX5_weigh_k0 (p := 15) rfl (by decide +kernel)
theorem dcX5_weigh_18 : decode cX5_weigh 18 = .ok (.iload_n 1, 1) := dw_at cX5_weigh_k0 (p := 18) rfl (by decide +kernel)
theorem dcX5_weigh_19 : decode cX5_weigh 19 = .ok (.iconst 1, 1) := dw_at cX5_weigh_k0 (p := 19) rfl (by decide +kernel)
theorem dcX5_weigh_20 : decode cX5_weigh 20 = .ok (.iadd, 1) := dw_at cX5_weigh_k0 (p := 20) rfl (by decide +kernel)
theorem dcX5_weigh_21 : decode cX5_weigh 21 = .ok (.iaload, 1) := dw_at cX5_weigh_k0 (p := 21) rfl (by decide +kernel)
theorem dcX5_weigh_22 : decode cX5_weigh 22 = .ok (.istore_n 3, 1) := dw_at cX5_weigh_k0 (p := 22) rfl (by decide +kernel)
theorem dcX5_weigh_23 : decode cX5_weigh 23 = .ok (.aload_n 0, 1) := dw_at cX5_weigh_k0 (p := 23) rfl (by decide +kernel)
theorem dcX5_weigh_24 : decode cX5_weigh 24 = .ok (.iload_n 2, 1) := dw_at cX5_weigh_k1 (p := 0) rfl (by decide +kernel)
theorem dcX5_weigh_25 : decode cX5_weigh 25 = .ok (.iload_n 3, 1) := dw_at cX5_weigh_k1 (p := 1) rfl (by decide +kernel)
theorem dcX5_weigh_26 : decode cX5_weigh 26 = .ok (.invokevirtual 80, 3) := dw_at cX5_weigh_k1 (p := 2) rfl (by decide +kernel)
theorem dcX5_weigh_29 : decode cX5_weigh 29 = .ok (.istore 4, 2) := dw_at cX5_weigh_k1 (p := 5) rfl (by decide +kernel)
theorem dcX5_weigh_31 : decode cX5_weigh 31 = .ok (.iload 4, 2) := dw_at cX5_weigh_k1 (p := 7) rfl (by decide +kernel)
theorem dcX5_weigh_33 : decode cX5_weigh 33 = .ok (.iconst (-1), 1) := dw_at cX5_weigh_k1 (p := 9) rfl (by decide +kernel)
theorem dcX5_weigh_34 : decode cX5_weigh 34 = .ok (.if_icmp .ne 5, 3) := dw_at cX5_weigh_k1 (p := 10) rfl (by decide +kernel)
theorem dcX5_weigh_37 : decode cX5_weigh 37 = .ok (.iconst 0, 1) := dw_at cX5_weigh_k1 (p := 13) rfl (by decide +kernel)
theorem dcX5_weigh_38 : decode cX5_weigh 38 = .ok (.ireturn, 1) := dw_at cX5_weigh_k1 (p := 14) rfl (by decide +kernel)
theorem dcX5_weigh_39 : decode cX5_weigh 39 = .ok (.iconst 0, 1) := dw_at cX5_weigh_k1 (p := 15) rfl (by decide +kernel)
theorem dcX5_weigh_40 : decode cX5_weigh 40 = .ok (.istore 5, 2) := dw_at cX5_weigh_k1 (p := 16) rfl (by decide +kernel)
theorem dcX5_weigh_42 : decode cX5_weigh 42 = .ok (.iload 5, 2) := dw_at cX5_weigh_k1 (p := 18) rfl (by decide +kernel)
theorem dcX5_weigh_44 : decode cX5_weigh 44 = .ok (.bipush 10, 2) := dw_at cX5_weigh_k1 (p := 20) rfl (by decide +kernel)
theorem dcX5_weigh_46 : decode cX5_weigh 46 = .ok (.if_icmp .ge 37, 3) := dw_at cX5_weigh_k1 (p := 22) rfl (by decide +kernel)
theorem dcX5_weigh_49 : decode cX5_weigh 49 = .ok (.iload 4, 2) := dw_at cX5_weigh_k2 (p := 0) rfl (by decide +kernel)
theorem dcX5_weigh_51 : decode cX5_weigh 51 = .ok (.iconst (-1), 1) := dw_at cX5_weigh_k2 (p := 2) rfl (by decide +kernel)
theorem dcX5_weigh_52 : decode cX5_weigh 52 = .ok (.if_icmp .eq 31, 3) := dw_at cX5_weigh_k2 (p := 3) rfl (by decide +kernel)
theorem dcX5_weigh_55 : decode cX5_weigh 55 = .ok (.iload_n 2, 1) := dw_at cX5_weigh_k2 (p := 6) rfl (by decide +kernel)
theorem dcX5_weigh_56 : decode cX5_weigh 56 = .ok (.iload 4, 2) := dw_at cX5_weigh_k2 (p := 7) rfl (by decide +kernel)
theorem dcX5_weigh_58 : decode cX5_weigh 58 = .ok (.invokestatic 22, 3) := dw_at cX5_weigh_k2 (p := 9) rfl (by decide +kernel)
theorem dcX5_weigh_61 : decode cX5_weigh 61 = .ok (.istore_n 2, 1) := dw_at cX5_weigh_k2 (p := 12) rfl (by decide +kernel)
theorem dcX5_weigh_62 : decode cX5_weigh 62 = .ok (.iload_n 3, 1) := dw_at cX5_weigh_k2 (p := 13) rfl (by decide +kernel)
theorem dcX5_weigh_63 : decode cX5_weigh 63 = .ok (.iload 4, 2) := dw_at cX5_weigh_k2 (p := 14) rfl (by decide +kernel)
theorem dcX5_weigh_65 : decode cX5_weigh 65 = .ok (.invokestatic 22, 3) := dw_at cX5_weigh_k2 (p := 16) rfl (by decide +kernel)
theorem dcX5_weigh_68 : decode cX5_weigh 68 = .ok (.istore_n 3, 1) := dw_at cX5_weigh_k2 (p := 19) rfl (by decide +kernel)
theorem dcX5_weigh_69 : decode cX5_weigh 69 = .ok (.aload_n 0, 1) := dw_at cX5_weigh_k2 (p := 20) rfl (by decide +kernel)
theorem dcX5_weigh_70 : decode cX5_weigh 70 = .ok (.iload_n 2, 1) := dw_at cX5_weigh_k2 (p := 21) rfl (by decide +kernel)
theorem dcX5_weigh_71 : decode cX5_weigh 71 = .ok (.iload_n 3, 1) := dw_at cX5_weigh_k2 (p := 22) rfl (by decide +kernel)
theorem dcX5_weigh_72 : decode cX5_weigh 72 = .ok (.invokevirtual 80, 3) := dw_at cX5_weigh_k2 (p := 23) rfl (by decide +kernel)
theorem dcX5_weigh_75 : decode cX5_weigh 75 = .ok (.istore 4, 2) := dw_at cX5_weigh_k3 (p := 0) rfl (by decide +kernel)
theorem dcX5_weigh_77 : decode cX5_weigh 77 = .ok (.iinc 5 1, 3) := dw_at cX5_weigh_k3 (p := 2) rfl (by decide +kernel)
theorem dcX5_weigh_80 : decode cX5_weigh 80 = .ok (.goto (-38), 3) := dw_at cX5_weigh_k3 (p := 5) rfl (by decide +kernel)
theorem dcX5_weigh_83 : decode cX5_weigh 83 = .ok (.aload_n 0, 1) := dw_at cX5_weigh_k3 (p := 8) rfl (by decide +kernel)
theorem dcX5_weigh_84 : decode cX5_weigh 84 = .ok (.getfield 11, 3) := dw_at cX5_weigh_k3 (p := 9) rfl (by decide +kernel)
theorem dcX5_weigh_87 : decode cX5_weigh 87 = .ok (.iload_n 1, 1) := dw_at cX5_weigh_k3 (p := 12) rfl (by decide +kernel)
theorem dcX5_weigh_88 : decode cX5_weigh 88 = .ok (.iload_n 2, 1) := dw_at cX5_weigh_k3 (p := 13) rfl (by decide +kernel)
theorem dcX5_weigh_89 : decode cX5_weigh 89 = .ok (.aload_n 0, 1) := dw_at cX5_weigh_k3 (p := 14) rfl (by decide +kernel)
theorem dcX5_weigh_90 : decode cX5_weigh 90 = .ok (.getfield 25, 3) := dw_at cX5_weigh_k3 (p := 15) rfl (by decide +kernel)
theorem dcX5_weigh_93 : decode cX5_weigh 93 = .ok (.invokestatic 19, 3) := dw_at cX5_weigh_k3 (p := 18) rfl (by decide +kernel)
theorem dcX5_weigh_96 : decode cX5_weigh 96 = .ok (.iastore, 1) := dw_at cX5_weigh_k3 (p := 21) rfl (by decide +kernel)
theorem dcX5_weigh_97 : decode cX5_weigh 97 = .ok (.aload_n 0, 1) := dw_at cX5_weigh_k3 (p := 22) rfl (by decide +kernel)
theorem dcX5_weigh_98 : decode cX5_weigh 98 = .ok (.getfield 11, 3) := dw_at cX5_weigh_k3 (p := 23) rfl (by decide +kernel)
theorem dcX5_weigh_101 : decode cX5_weigh 101 = .ok (.iload_n 1, 1) := dw_at cX5_weigh_k3 (p := 26) rfl (by decide +kernel)
theorem dcX5_weigh_102 : decode cX5_weigh 102 = .ok (.iconst 1, 1) := dw_at cX5_weigh_k3 (p := 27) rfl (by decide +kernel)
theorem dcX5_weigh_103 : decode cX5_weigh 103 = .ok (.iadd, 1) := dw_at cX5_weigh_k3 (p := 28) rfl (by decide +kernel)
theorem dcX5_weigh_104 : decode cX5_weigh 104 = .ok (.iload_n 3, 1) := dw_at cX5_weigh_k3 (p := 29) rfl (by decide +kernel)
theorem dcX5_weigh_105 : decode cX5_weigh 105 = .ok (.iastore, 1) := dw_at cX5_weigh_k3 (p := 30) rfl (by decide +kernel)
theorem dcX5_weigh_106 : decode cX5_weigh 106 = .ok (.iconst 1, 1) := dw_at cX5_weigh_k3 (p := 31) rfl (by decide +kernel)
theorem dcX5_weigh_107 : decode cX5_weigh 107 = .ok (.ireturn, 1) := dw_at cX5_weigh_k3 (p := 32) rfl (by decide +kernel)
def cm_X5_weigh_0 (vl : Nat → Nat) (K : Nat) (go : Nat → Int32 → Int32 → Int32 → Int32 → Int32 → Nat → ow_MS → Option (Int32 × ow_MS)) (x1 : Int32) (x2 : Int32) (x3 : Int32) (x4 : Int32) (x5 : Int32) (r0 : Nat) (z : ow_MS) : Option (Int32 × ow_MS) :=
 crI (cX vl) z (r0 + 4) x1 fun v1 => rdF z (r0 + 1) fun v2 => cs1 (ce_X5_invert vl K v1 v2 z) fun v4 z3 => crI (cX vl) z3 (r0 + 4) (x1 + 1) fun v5 => cs1 (ce_X5_movable vl K r0 v4 v5 z3) fun v7 z6 => (if v7 = (-1) then okZ 0 (some (0, z6))
 else go 1 x1 v4 v5 v7 0 r0 z6)
def cm_X5_weigh_1 (vl : Nat → Nat) (K : Nat) (go : Nat → Int32 → Int32 → Int32 → Int32 → Int32 → Nat → ow_MS → Option (Int32 × ow_MS)) (x1 : Int32) (x2 : Int32) (x3 : Int32) (x4 : Int32) (x5 : Int32) (r0 : Nat) (z : ow_MS) : Option (Int32 × ow_MS) :=
 (if 10 ≤ x5 then go 2 x1 x2 x3 x4 x5 r0 z
 else (if x4 = (-1) then go 2 x1 x2 x3 x4 x5 r0 z
 else cs1 (ce_X5_exchanged vl K x2 x4 z) fun v9 z8 => cs1 (ce_X5_exchanged vl K x3 x4 z8) fun v11 z10 => cs1 (ce_X5_movable vl K r0 v9 v11 z10) fun v13 z12 => go 1 x1 v9 v11 v13 (x5 + 1) r0 z12))
def cm_X5_weigh_2 (vl : Nat → Nat) (K : Nat) (go : Nat → Int32 → Int32 → Int32 → Int32 → Int32 → Nat → ow_MS → Option (Int32 × ow_MS)) (x1 : Int32) (x2 : Int32) (x3 : Int32) (x4 : Int32) (x5 : Int32) (r0 : Nat) (z : ow_MS) : Option (Int32 × ow_MS) :=
 rdF z (r0 + 1) fun v14 => cs1 (ce_X5_invert vl K x2 v14 z) fun v16 z15 => ctI (cX vl) z15 (r0 + 4) x1 v16 fun z17 => ctI (cX vl) z17 (r0 + 4) (x1 + 1) x3 fun z18 => okZ 1 (some (1, z18))
def cb_X5_weigh (vl : Nat → Nat) (K : Nat) (go : Nat → Int32 → Int32 → Int32 → Int32 → Int32 → Nat → ow_MS → Option (Int32 × ow_MS)) (L : Nat) (x1 : Int32) (x2 : Int32) (x3 : Int32) (x4 : Int32) (x5 : Int32) (r0 : Nat) (z : ow_MS) : Option (Int32 × ow_MS) := match L with
  | 0 => cm_X5_weigh_0 vl K go x1 x2 x3 x4 x5 r0 z
  | 1 => cm_X5_weigh_1 vl K go x1 x2 x3 x4 x5 r0 z
  | 2 => cm_X5_weigh_2 vl K go x1 x2 x3 x4 x5 r0 z
  | _ => none
def c_X5_weigh (vl : Nat → Nat) (K : Nat) : Nat → Nat → Int32 → Int32 → Int32 → Int32 → Int32 → Nat → ow_MS → Option (Int32 × ow_MS)
  | 0 => fun _ _ _ _ _ _ _ _ => none
  | k + 1 => cb_X5_weigh vl K (c_X5_weigh vl K k)
def ce_X5_weigh (vl : Nat → Nat) (K : Nat) (r0 : Nat) (x1 : Int32) (z : ow_MS) : Option (Int32 × ow_MS) := c_X5_weigh vl K K 0 x1 0 0 0 0 r0 z
abbrev wc_X5_weigh : List Cond := .code yX5_weigh cX5_weigh 6 (some .boolean) :: wC
theorem cdd_X5_weigh : yX5_weigh.cls = RX5 ∧ yX5_weigh.cls ≠ "java/lang/invoke/MethodHandle" ∧ yX5_weigh.cls ≠ "java/lang/invoke/VarHandle" ∧ (parseMethodDescriptor yX5_weigh.desc).map (fun d => d.parameters.length) = some 1 := by decide +kernel
set_option maxHeartbeats 4000000 in
set_option maxRecDepth 100000 in
theorem kc_X5_weigh (l : Launch) (D : va_G) (q : Nat → ClassId) (vl u : Nat → Nat) (hU0 : tw_inj (cX vl) u) (K : Nat) (r0 : Nat) (x1 : Int32) (hr0 : cw_X5 r0) (z z1 : ow_MS) (r : Int32) (hq : ce_X5_weigh vl K r0 x1 z = some (r, z1)) : Met l yX5_weigh wc_X5_weigh ({ frames := 2, cells := 0, slots := 0, locals := 44 } : Room) (va_Pc [.ref (u r0), .int x1] (cw_pre D q vl u z)) (va_Qi (fun x (_ : Unit) => x = r) (fun _ t => va_P D vwCl (uw (cX vl) q u z1) t.heap) (tw_A (cX vl) u)) 0 0 (tw_A (cX vl) u) := by
  refine Met.ofW (cc := cX5_weigh) (maxL := 6) (ret := (some .boolean)) (by decide) rfl ?_
  intro p e s m args below meth c s₁ B hml hv
  obtain ⟨rfl, hP, hK⟩ := hv
  have hx := B.exec
  have hb := B.bytes
  have hr := B.returns
  have hts := atoms_spec (ws := wc_X5_weigh) B.pre
  have hT : ∀ w ∈ wC, w.before ([.ref (u r0), .int x1] : List Value).toArray s = true := fun w h => hts w (List.mem_cons_of_mem _ h)
  have hown : s.vm.findClass RX5 = some m.cls := findClass_of_methodNamed B.named
  have hlocks := B.notSynchronized
  have hU : uw_inj (cX vl) u (tw_A (cX vl) u) := ⟨hU0, fun h hh => ⟨h, hh, rfl⟩⟩
  have hM : uw_M D vwCl (cX vl) q (tw_A (cX vl) u) s.heap u z s.heap [] := ⟨hP, va_S.rf⟩
  have hl := lv_entry ([.ref (u r0), .int x1]) (n := 6) (Nat.le_of_ble_eq_true rfl)
  rw [lg_entry_eq]
  generalize (lg_sl ([.ref (u r0), .int x1]) ++ List.replicate (6 - (lg_sl ([.ref (u r0), .int x1])).length) Slot.unset).toArray = ls at hl ⊢
  have hl : lv_has ls 6 [(0, .ref (u r0)), (1, .int x1)] := hl
  refine ow_named (fun QQ hQQ => ?_)
  generalize ([.ref (u r0), .int x1] : List Value).toArray = args at hts hT hQQ ⊢
  have key : ∀ k : Nat, (∀ (x1 : Int32) (x2 : Int32) (x3 : Int32) (x4 : Int32) (x5 : Int32) (r0 : Nat) (z : ow_MS) (H : Heap) (locs : List Loc) (ls : Array Slot), cw_X5 r0 → uw_M D vwCl (cX vl) q (tw_A (cX vl) u) s.heap u z H locs → lv_has ls 6 [(0, .ref (u r0)), (1, .int x1)] → c_X5_weigh vl K k 0 x1 x2 x3 x4 x5 r0 z = some (r, z1) → W p l e ({ frames := 2, cells := 0, slots := 0, locals := 44 } : Room) s m args below meth c H locs 0 0 QQ (F0 m 0 ls [])) ∧ (∀ (x1 : Int32) (x2 : Int32) (x3 : Int32) (x4 : Int32) (x5 : Int32) (r0 : Nat) (z : ow_MS) (H : Heap) (locs : List Loc) (ls : Array Slot), cw_X5 r0 → uw_M D vwCl (cX vl) q (tw_A (cX vl) u) s.heap u z H locs → lv_has ls 6 [(0, .ref (u r0)), (1, .int x1), (2, .int x2), (3, .int x3), (4, .int x4), (5, .int x5)] → c_X5_weigh vl K k 1 x1 x2 x3 x4 x5 r0 z = some (r, z1) → W p l e ({ frames := 2, cells := 0, slots := 0, locals := 44 } : Room) s m args below meth c H locs 0 0 QQ (F0 m 42 ls [])) ∧ (∀ (x1 : Int32) (x2 : Int32) (x3 : Int32) (x4 : Int32) (x5 : Int32) (r0 : Nat) (z : ow_MS) (H : Heap) (locs : List Loc) (ls : Array Slot), cw_X5 r0 → uw_M D vwCl (cX vl) q (tw_A (cX vl) u) s.heap u z H locs → lv_has ls 6 [(0, .ref (u r0)), (1, .int x1), (2, .int x2), (3, .int x3), (4, .int x4), (5, .int x5)] → c_X5_weigh vl K k 2 x1 x2 x3 x4 x5 r0 z = some (r, z1) → W p l e ({ frames := 2, cells := 0, slots := 0, locals := 44 } : Room) s m args below meth c H locs 0 0 QQ (F0 m 83 ls [])) := by
    intro k
    induction k with
    | zero => exact ⟨fun _ _ _ _ _ _ _ _ _ _ _ _ _ hq => cw_no hq, fun _ _ _ _ _ _ _ _ _ _ _ _ _ hq => cw_no hq, fun _ _ _ _ _ _ _ _ _ _ _ _ _ hq => cw_no hq⟩
    | succ k ih =>
      obtain ⟨ih_0, ih_1, ih_2⟩ := ih
      refine ⟨?_, ?_, ?_⟩
      · intro x1 x2 x3 x4 x5 r0 z H locs ls hr0 hM hl hq
        have hq : cm_X5_weigh_0 vl K (c_X5_weigh vl K k) x1 x2 x3 x4 x5 r0 z = some (r, z1) := hq
        unfold cm_X5_weigh_0 at hq
        refine lv_aload_n hx hb dcX5_weigh_0 rfl (lv_at hl 0 rfl) ?_
        refine vgX5_11 hx hb hT hown hK hM hr0 dcX5_weigh_1 ?_
        refine lv_iload_n hx hb dcX5_weigh_4 rfl (lv_at hl 1 rfl) ?_
        refine uw_iald cX_ok hx hb hK hM (cr_X5_3 hr0) hq dcX5_weigh_5 (fun v1 hq => ?_)
        refine lv_aload_n hx hb dcX5_weigh_6 rfl (lv_at hl 0 rfl) ?_
        refine vgX5_25 hx hb hT hown hK hM hr0 hq dcX5_weigh_7 (fun v2 hq => ?_)
        obtain ⟨v4, z3, hcq, hq⟩ := tw_cl1 hq
        refine uw_cali hU hM (va_runS (As := [.int v1, .int v2]) (rest := []) ⟨hx, hb, hml, hown, hts⟩ (kc_X5_invert l D q vl u hU.1 K v1 v2 z z3 v4 hcq) (va_cwS 2 hts (tw_gS wC_good xq_409 xq_410 xq_403 xq_404) rfl rfl rfl cdd_X5_invert ⟨(Nat.le_of_ble_eq_true rfl), (Nat.le_of_ble_eq_true rfl)⟩) (cw_preS hK hM) rfl rfl hl.1 rfl (lv_room (Nat.le_of_ble_eq_true rfl)) dcX5_weigh_10 ⟨(Nat.le_of_ble_eq_true rfl), (Nat.le_of_ble_eq_true rfl)⟩) (fun H locs hM => ?_)
        refine lv_istore_n (lv' := [(2, .int v4), (0, .ref (u r0)), (1, .int x1)]) hx hb dcX5_weigh_13 rfl hl (by decide) rfl (fun ls hl => ?_)
        refine lv_aload_n hx hb dcX5_weigh_14 rfl (lv_at hl 1 rfl) ?_
        refine vgX5_11 hx hb hT hown hK hM hr0 dcX5_weigh_15 ?_
        refine lv_iload_n hx hb dcX5_weigh_18 rfl (lv_at hl 2 rfl) ?_
        refine lv_iconst (v := 1) hx hb dcX5_weigh_19 (by decide) ?_
        refine lv_iadd hx hb dcX5_weigh_20 ?_
        refine uw_iald cX_ok hx hb hK hM (cr_X5_3 hr0) hq dcX5_weigh_21 (fun v5 hq => ?_)
        refine lv_istore_n (lv' := [(3, .int v5), (2, .int v4), (0, .ref (u r0)), (1, .int x1)]) hx hb dcX5_weigh_22 rfl hl (by decide) rfl (fun ls hl => ?_)
        refine lv_aload_n hx hb dcX5_weigh_23 rfl (lv_at hl 2 rfl) ?_
        refine lv_iload_n hx hb dcX5_weigh_24 rfl (lv_at hl 1 rfl) ?_
        refine lv_iload_n hx hb dcX5_weigh_25 rfl (lv_at hl 0 rfl) ?_
        obtain ⟨v7, z6, hcq, hq⟩ := tw_cl1 hq
        refine uw_cali hU hM (va_runV (As := [.int v4, .int v5]) (rest := []) ⟨hx, hb, hml, hown, hts⟩ (kc_X5_movable l D q vl u hU.1 K r0 v4 v5 hr0 z3 z6 v7 hcq) (cwV 2 hts (tw_gV wC_good xq_442 xq_443 xq_444 xq_403 xq_445) rfl rfl rfl cdd_X5_movable ⟨(Nat.le_of_ble_eq_true rfl), (Nat.le_of_ble_eq_true rfl)⟩) (cw_preV hK hM (co_X5 hr0) rfl) rfl rfl hl.1 rfl (lv_room (Nat.le_of_ble_eq_true rfl)) dcX5_weigh_26 ⟨(Nat.le_of_ble_eq_true rfl), (Nat.le_of_ble_eq_true rfl)⟩) (fun H locs hM => ?_)
        refine lv_istore (lv' := [(4, .int v7), (3, .int v5), (2, .int v4), (0, .ref (u r0)), (1, .int x1)]) hx hb dcX5_weigh_29 hl (by decide) rfl (fun ls hl => ?_)
        refine lv_iload hx hb dcX5_weigh_31 (lv_at hl 0 rfl) ?_
        refine lv_iconst (v := (-1)) hx hb dcX5_weigh_33 (by decide) ?_
        refine lv_icmp_ne (tgt := 39) hx hb dcX5_weigh_34 (by decide) (fun hc => ?_) (fun hc => ?_)
        · have hq := tw_if hq hc
          refine lv_iconst (v := 0) hx hb dcX5_weigh_39 (by decide) ?_
          refine lv_istore (lv' := [(5, .int 0), (4, .int v7), (3, .int v5), (2, .int v4), (0, .ref (u r0)), (1, .int x1)]) hx hb dcX5_weigh_40 hl (by decide) rfl (fun ls hl => ?_)
          exact ih_1 x1 v4 v5 v7 0 r0 z6 H locs ls hr0 hM (lv_sub hl [4, 5, 3, 2, 1, 0] rfl) hq
        · have hq := tw_it hq hc
          refine lv_iconst (v := 0) hx hb dcX5_weigh_37 (by decide) ?_
          obtain ⟨hz, hq⟩ := tw_gZ hq
          exact cw_zret hx hb hr hlocks hM hz hq hQQ dcX5_weigh_38
      · intro x1 x2 x3 x4 x5 r0 z H locs ls hr0 hM hl hq
        have hq : cm_X5_weigh_1 vl K (c_X5_weigh vl K k) x1 x2 x3 x4 x5 r0 z = some (r, z1) := hq
        unfold cm_X5_weigh_1 at hq
        refine lv_iload hx hb dcX5_weigh_42 (lv_at hl 5 rfl) ?_
        refine lv_bipush (v := 10) hx hb dcX5_weigh_44 (by decide) ?_
        refine lv_icmp_ge (tgt := 83) hx hb dcX5_weigh_46 (by decide) (fun hc => ?_) (fun hc => ?_)
        · have hq := tw_it hq hc
          exact ih_2 x1 x2 x3 x4 x5 r0 z H locs ls hr0 hM (lv_sub hl [0, 1, 2, 3, 4, 5] rfl) hq
        · have hq := tw_if hq hc
          refine lv_iload hx hb dcX5_weigh_49 (lv_at hl 4 rfl) ?_
          refine lv_iconst (v := (-1)) hx hb dcX5_weigh_51 (by decide) ?_
          refine lv_icmp_eq (tgt := 83) hx hb dcX5_weigh_52 (by decide) (fun hc => ?_) (fun hc => ?_)
          · have hq := tw_it hq hc
            exact ih_2 x1 x2 x3 x4 x5 r0 z H locs ls hr0 hM (lv_sub hl [0, 1, 2, 3, 4, 5] rfl) hq
          · have hq := tw_if hq hc
            refine lv_iload_n hx hb dcX5_weigh_55 rfl (lv_at hl 2 rfl) ?_
            refine lv_iload hx hb dcX5_weigh_56 (lv_at hl 4 rfl) ?_
            obtain ⟨v9, z8, hcq, hq⟩ := tw_cl1 hq
            refine uw_cali hU hM (va_runS (As := [.int x2, .int x4]) (rest := []) ⟨hx, hb, hml, hown, hts⟩ (kc_X5_exchanged l D q vl u hU.1 K x2 x4 z z8 v9 hcq) (va_cwS 2 hts (tw_gS wC_good xq_411 xq_412 xq_403 xq_408) rfl rfl rfl cdd_X5_exchanged ⟨(Nat.le_of_ble_eq_true rfl), (Nat.le_of_ble_eq_true rfl)⟩) (cw_preS hK hM) rfl rfl hl.1 rfl (lv_room (Nat.le_of_ble_eq_true rfl)) dcX5_weigh_58 ⟨(Nat.le_of_ble_eq_true rfl), (Nat.le_of_ble_eq_true rfl)⟩) (fun H locs hM => ?_)
            refine lv_istore_n (lv' := [(2, .int v9), (0, .ref (u r0)), (1, .int x1), (3, .int x3), (4, .int x4), (5, .int x5)]) hx hb dcX5_weigh_61 rfl hl (by decide) rfl (fun ls hl => ?_)
            refine lv_iload_n hx hb dcX5_weigh_62 rfl (lv_at hl 3 rfl) ?_
            refine lv_iload hx hb dcX5_weigh_63 (lv_at hl 4 rfl) ?_
            obtain ⟨v11, z10, hcq, hq⟩ := tw_cl1 hq
            refine uw_cali hU hM (va_runS (As := [.int x3, .int x4]) (rest := []) ⟨hx, hb, hml, hown, hts⟩ (kc_X5_exchanged l D q vl u hU.1 K x3 x4 z8 z10 v11 hcq) (va_cwS 2 hts (tw_gS wC_good xq_411 xq_412 xq_403 xq_408) rfl rfl rfl cdd_X5_exchanged ⟨(Nat.le_of_ble_eq_true rfl), (Nat.le_of_ble_eq_true rfl)⟩) (cw_preS hK hM) rfl rfl hl.1 rfl (lv_room (Nat.le_of_ble_eq_true rfl)) dcX5_weigh_65 ⟨(Nat.le_of_ble_eq_true rfl), (Nat.le_of_ble_eq_true rfl)⟩) (fun H locs hM => ?_)
            refine lv_istore_n (lv' := [(3, .int v11), (2, .int v9), (0, .ref (u r0)), (1, .int x1), (4, .int x4), (5, .int x5)]) hx hb dcX5_weigh_68 rfl hl (by decide) rfl (fun ls hl => ?_)
            refine lv_aload_n hx hb dcX5_weigh_69 rfl (lv_at hl 2 rfl) ?_
            refine lv_iload_n hx hb dcX5_weigh_70 rfl (lv_at hl 1 rfl) ?_
            refine lv_iload_n hx hb dcX5_weigh_71 rfl (lv_at hl 0 rfl) ?_
            obtain ⟨v13, z12, hcq, hq⟩ := tw_cl1 hq
            refine uw_cali hU hM (va_runV (As := [.int v9, .int v11]) (rest := []) ⟨hx, hb, hml, hown, hts⟩ (kc_X5_movable l D q vl u hU.1 K r0 v9 v11 hr0 z10 z12 v13 hcq) (cwV 2 hts (tw_gV wC_good xq_442 xq_443 xq_444 xq_403 xq_445) rfl rfl rfl cdd_X5_movable ⟨(Nat.le_of_ble_eq_true rfl), (Nat.le_of_ble_eq_true rfl)⟩) (cw_preV hK hM (co_X5 hr0) rfl) rfl rfl hl.1 rfl (lv_room (Nat.le_of_ble_eq_true rfl)) dcX5_weigh_72 ⟨(Nat.le_of_ble_eq_true rfl), (Nat.le_of_ble_eq_true rfl)⟩) (fun H locs hM => ?_)
            refine lv_istore (lv' := [(4, .int v13), (3, .int v11), (2, .int v9), (0, .ref (u r0)), (1, .int x1), (5, .int x5)]) hx hb dcX5_weigh_75 hl (by decide) rfl (fun ls hl => ?_)
            refine lv_iinc (v := (x5 + 1)) (lv' := [(5, .int (x5 + 1)), (4, .int v13), (3, .int v11), (2, .int v9), (0, .ref (u r0)), (1, .int x1)]) hx hb dcX5_weigh_77 hl (k := 5) rfl rfl (by decide) rfl (fun ls hl => ?_)
            refine lv_goto (tgt := 42) hx hb dcX5_weigh_80 (by decide) ?_
            exact ih_1 x1 v9 v11 v13 (x5 + 1) r0 z12 H locs ls hr0 hM (lv_sub hl [4, 5, 3, 2, 1, 0] rfl) hq
      · intro x1 x2 x3 x4 x5 r0 z H locs ls hr0 hM hl hq
        have hq : cm_X5_weigh_2 vl K (c_X5_weigh vl K k) x1 x2 x3 x4 x5 r0 z = some (r, z1) := hq
        unfold cm_X5_weigh_2 at hq
        refine lv_aload_n hx hb dcX5_weigh_83 rfl (lv_at hl 0 rfl) ?_
        refine vgX5_11 hx hb hT hown hK hM hr0 dcX5_weigh_84 ?_
        refine lv_iload_n hx hb dcX5_weigh_87 rfl (lv_at hl 1 rfl) ?_
        refine lv_iload_n hx hb dcX5_weigh_88 rfl (lv_at hl 2 rfl) ?_
        refine lv_aload_n hx hb dcX5_weigh_89 rfl (lv_at hl 0 rfl) ?_
        refine vgX5_25 hx hb hT hown hK hM hr0 hq dcX5_weigh_90 (fun v14 hq => ?_)
        obtain ⟨v16, z15, hcq, hq⟩ := tw_cl1 hq
        refine uw_cali hU hM (va_runS (As := [.int x2, .int v14]) (rest := [.int x1, .ref (u (r0 + 4))]) ⟨hx, hb, hml, hown, hts⟩ (kc_X5_invert l D q vl u hU.1 K x2 v14 z z15 v16 hcq) (va_cwS 2 hts (tw_gS wC_good xq_409 xq_410 xq_403 xq_404) rfl rfl rfl cdd_X5_invert ⟨(Nat.le_of_ble_eq_true rfl), (Nat.le_of_ble_eq_true rfl)⟩) (cw_preS hK hM) rfl rfl hl.1 rfl (lv_room (Nat.le_of_ble_eq_true rfl)) dcX5_weigh_93 ⟨(Nat.le_of_ble_eq_true rfl), (Nat.le_of_ble_eq_true rfl)⟩) (fun H locs hM => ?_)
        refine uw_iast cX_ok hU hx hb hK hM (cr_X5_3 hr0) hq dcX5_weigh_96 (fun z17 H locs hM hq => ?_)
        refine lv_aload_n hx hb dcX5_weigh_97 rfl (lv_at hl 0 rfl) ?_
        refine vgX5_11 hx hb hT hown hK hM hr0 dcX5_weigh_98 ?_
        refine lv_iload_n hx hb dcX5_weigh_101 rfl (lv_at hl 1 rfl) ?_
        refine lv_iconst (v := 1) hx hb dcX5_weigh_102 (by decide) ?_
        refine lv_iadd hx hb dcX5_weigh_103 ?_
        refine lv_iload_n hx hb dcX5_weigh_104 rfl (lv_at hl 3 rfl) ?_
        refine uw_iast cX_ok hU hx hb hK hM (cr_X5_3 hr0) hq dcX5_weigh_105 (fun z18 H locs hM hq => ?_)
        refine lv_iconst (v := 1) hx hb dcX5_weigh_106 (by decide) ?_
        obtain ⟨hz, hq⟩ := tw_gZ hq
        exact cw_zret hx hb hr hlocks hM hz hq hQQ dcX5_weigh_107
  exact (key K).1 x1 0 0 0 0 r0 z s.heap [] ls hr0 hM (lv_sub hl [0, 1] rfl) hq
theorem dcX5_putBehind_0 : decode cX5_putBehind 0 = .ok (.aload_n 0, 1) := dw_at cX5_putBehind_k0 (p := 0) rfl (by decide +kernel)
theorem dcX5_putBehind_1 : decode cX5_putBehind 1 = .ok (.getfield 32, 3) := dw_at cX5_putBehind_k0 (p := 1) rfl (by decide +kernel)
theorem dcX5_putBehind_4 : decode cX5_putBehind 4 = .ok (.bipush 24, 2) := dw_at cX5_putBehind_k0 (p := 4) rfl (by decide +kernel)
theorem dcX5_putBehind_6 : decode cX5_putBehind 6 = .ok (.if_icmp .lt 4, 3) := dw_at cX5_putBehind_k0 (p := 6) rfl (by decide +kernel)
theorem dcX5_putBehind_9 : decode cX5_putBehind 9 = .ok (.return_, 1) := dw_at cX5_putBehind_k0 (p := 9) rfl (by decide +kernel)
theorem dcX5_putBehind_10 : decode cX5_putBehind 10 = .ok (.aload_n 0, 1) := dw_at cX5_putBehind_k0 (p := 10) rfl (by decide +kernel)
theorem dcX5_putBehind_11 : decode cX5_putBehind 11 = .ok (.getfield 11, 3) := dw_at cX5_putBehind_k0 (p := 11) rfl (by decide +kernel)
theorem dcX5_putBehind_14 : decode cX5_putBehind 14 = .ok (.aload_n 0, 1) := dw_at cX5_putBehind_k0 (p := 14) rfl (by decide +kernel)
theorem dcX5_putBehind_15 : decode cX5_putBehind 15 = .ok (.getfield 32, 3) := dw_at cX5_putBehind_k0 (p := 15) rfl (by decide +kernel)
theorem dcX5_putBehind_18 : decode cX5_putBehind 18 = .ok (.iload_n 1, 1) := dw_at cX5_putBehind_k0 (p := 18) rfl (by decide +kernel)
theorem dcX5_putBehind_19 : decode cX5_putBehind 19 = .ok (.iastore, 1) := dw_at cX5_putBehind_k0 (p := 19) rfl (by decide +kernel)
theorem dcX5_putBehind_20 : decode cX5_putBehind 20 = .ok (.aload_n 0, 1) := dw_at cX5_putBehind_k0 (p := 20) rfl (by decide +kernel)
theorem dcX5_putBehind_21 : decode cX5_putBehind 21 = .ok (.dup, 1) := dw_at cX5_putBehind_k0 (p := 21) rfl (by decide +kernel)
theorem dcX5_putBehind_22 : decode cX5_putBehind 22 = .ok (.getfield 32, 3) := dw_at cX5_putBehind_k0 (p := 22) rfl (by decide +kernel)
theorem dcX5_putBehind_25 : decode cX5_putBehind 25 = .ok (.iconst 1, 1) := dw_at cX5_putBehind_k1 (p := 0) rfl (by decide +kernel)
theorem dcX5_putBehind_26 : decode cX5_putBehind 26 = .ok (.iadd, 1) := dw_at cX5_putBehind_k1 (p := 1) rfl (by decide +kernel)
theorem dcX5_putBehind_27 : decode cX5_putBehind 27 = .ok (.putfield 32, 3) := dw_at cX5_putBehind_k1 (p := 2) rfl (by decide +kernel)
theorem dcX5_putBehind_30 : decode cX5_putBehind 30 = .ok (.iconst 1, 1) := dw_at cX5_putBehind_k1 (p := 5) rfl (by decide +kernel)
theorem dcX5_putBehind_31 : decode cX5_putBehind 31 = .ok (.istore_n 2, 1) := dw_at cX5_putBehind_k1 (p := 6) rfl (by decide +kernel)
theorem dcX5_putBehind_32 : decode cX5_putBehind 32 = .ok (.aload_n 0, 1) := dw_at cX5_putBehind_k1 (p := 7) rfl (by decide +kernel)
theorem dcX5_putBehind_33 : decode cX5_putBehind 33 = .ok (.getfield 32, 3) := dw_at cX5_putBehind_k1 (p := 8) rfl (by decide +kernel)
theorem dcX5_putBehind_36 : decode cX5_putBehind 36 = .ok (.iconst 2, 1) := dw_at cX5_putBehind_k1 (p := 11) rfl (by decide +kernel)
theorem dcX5_putBehind_37 : decode cX5_putBehind 37 = .ok (.isub, 1) := dw_at cX5_putBehind_k1 (p := 12) rfl (by decide +kernel)
theorem dcX5_putBehind_38 : decode cX5_putBehind 38 = .ok (.istore_n 3, 1) := dw_at cX5_putBehind_k1 (p := 13) rfl (by decide +kernel)
theorem dcX5_putBehind_39 : decode cX5_putBehind 39 = .ok (.iload_n 3, 1) := dw_at cX5_putBehind_k1 (p := 14) rfl (by decide +kernel)
theorem dcX5_putBehind_40 : decode cX5_putBehind 40 = .ok (.ifCond .lt 19, 3) := dw_at cX5_putBehind_k1 (p := 15) rfl (by decide +kernel)
theorem dcX5_putBehind_43 : decode cX5_putBehind 43 = .ok (.iload_n 2, 1) := dw_at cX5_putBehind_k1 (p := 18) rfl (by decide +kernel)
theorem dcX5_putBehind_44 : decode cX5_putBehind 44 = .ok (.ifCond .eq 15, 3) := dw_at cX5_putBehind_k1 (p := 19) rfl (by decide +kernel)
theorem dcX5_putBehind_47 : decode cX5_putBehind 47 = .ok (.aload_n 0, 1) := dw_at cX5_putBehind_k1 (p := 22) rfl (by decide +kernel)
theorem dcX5_putBehind_48 : decode cX5_putBehind 48 = .ok (.iload_n 3, 1) := dw_at cX5_putBehind_k1 (p := 23) rfl (by decide +kernel)
theorem dcX5_putBehind_49 : decode cX5_putBehind 49 = .ok (.invokevirtual 73, 3) := dw_at cX5_putBehind_k2 (p := 0) rfl (by decide +kernel)
theorem dcX5_putBehind_52 : decode cX5_putBehind 52 = .ok (.istore_n 2, 1) := dw_at cX5_putBehind_k2 (p := 3) rfl (by decide +kernel)
theorem dcX5_putBehind_53 : decode cX5_putBehind 53 = .ok (.iinc 3 (-1), 3) := dw_at cX5_putBehind_k2 (p := 4) rfl (by decide +kernel)
theorem dcX5_putBehind_56 : decode cX5_putBehind 56 = .ok (.goto (-17), 3) := dw_at cX5_putBehind_k2 (p := 7) rfl (by decide +kernel)
theorem dcX5_putBehind_59 : decode cX5_putBehind 59 = .ok (.aload_n 0, 1) := dw_at cX5_putBehind_k2 (p := 10) rfl (by decide +kernel)
theorem dcX5_putBehind_60 : decode cX5_putBehind 60 = .ok (.invokevirtual 77, 3) := dw_at cX5_putBehind_k2 (p := 11) rfl (by decide +kernel)
theorem dcX5_putBehind_63 : decode cX5_putBehind 63 = .ok (.return_, 1) := dw_at cX5_putBehind_k2 (p := 14) rfl (by decide +kernel)
def cm_X5_putBehind_0 (vl : Nat → Nat) (K : Nat) (go : Nat → Int32 → Int32 → Int32 → Nat → ow_MS → Option ow_MS) (x1 : Int32) (x2 : Int32) (x3 : Int32) (r0 : Nat) (z : ow_MS) : Option ow_MS :=
 rdF z (r0 + 3) fun v1 => (if v1 < 24 then rdF z (r0 + 3) fun v2 => ctI (cX vl) z (r0 + 4) v2 x1 fun z3 => rdF z3 (r0 + 3) fun v4 => wrF z3 (r0 + 3) (v4 + 1) fun z5 => rdF z5 (r0 + 3) fun v6 => go 1 x1 1 (v6 - 2) r0 z5
 else some z)
def cm_X5_putBehind_1 (vl : Nat → Nat) (K : Nat) (go : Nat → Int32 → Int32 → Int32 → Nat → ow_MS → Option ow_MS) (x1 : Int32) (x2 : Int32) (x3 : Int32) (r0 : Nat) (z : ow_MS) : Option ow_MS :=
 (if x3 < 0 then go 2 x1 x2 x3 r0 z
 else (if x2 = 0 then go 2 x1 x2 x3 r0 z
 else cs1 (ce_X5_weigh vl K r0 x3 z) fun v8 z7 => go 1 x1 v8 (x3 + (-1)) r0 z7))
def cm_X5_putBehind_2 (vl : Nat → Nat) (K : Nat) (go : Nat → Int32 → Int32 → Int32 → Nat → ow_MS → Option ow_MS) (x1 : Int32) (x2 : Int32) (x3 : Int32) (r0 : Nat) (z : ow_MS) : Option ow_MS :=
 cs0 (ce_X5_strip vl K r0 z) fun z9 => some z9
def cb_X5_putBehind (vl : Nat → Nat) (K : Nat) (go : Nat → Int32 → Int32 → Int32 → Nat → ow_MS → Option ow_MS) (L : Nat) (x1 : Int32) (x2 : Int32) (x3 : Int32) (r0 : Nat) (z : ow_MS) : Option ow_MS := match L with
  | 0 => cm_X5_putBehind_0 vl K go x1 x2 x3 r0 z
  | 1 => cm_X5_putBehind_1 vl K go x1 x2 x3 r0 z
  | 2 => cm_X5_putBehind_2 vl K go x1 x2 x3 r0 z
  | _ => none
def c_X5_putBehind (vl : Nat → Nat) (K : Nat) : Nat → Nat → Int32 → Int32 → Int32 → Nat → ow_MS → Option ow_MS
  | 0 => fun _ _ _ _ _ _ => none
  | k + 1 => cb_X5_putBehind vl K (c_X5_putBehind vl K k)
def ce_X5_putBehind (vl : Nat → Nat) (K : Nat) (r0 : Nat) (x1 : Int32) (z : ow_MS) : Option ow_MS := c_X5_putBehind vl K K 0 x1 0 0 r0 z
abbrev wc_X5_putBehind : List Cond := .code yX5_putBehind cX5_putBehind 4 none :: wC
theorem cdd_X5_putBehind : yX5_putBehind.cls = RX5 ∧ yX5_putBehind.cls ≠ "java/lang/invoke/MethodHandle" ∧ yX5_putBehind.cls ≠ "java/lang/invoke/VarHandle" ∧ (parseMethodDescriptor yX5_putBehind.desc).map (fun d => d.parameters.length) = some 1 := by decide +kernel
set_option maxHeartbeats 4000000 in
set_option maxRecDepth 100000 in
theorem kc_X5_putBehind (l : Launch) (D : va_G) (q : Nat → ClassId) (vl u : Nat → Nat) (hU0 : tw_inj (cX vl) u) (K : Nat) (r0 : Nat) (x1 : Int32) (hr0 : cw_X5 r0) (z z1 : ow_MS) (hq : ce_X5_putBehind vl K r0 x1 z = some z1) : Met l yX5_putBehind wc_X5_putBehind ({ frames := 3, cells := 0, slots := 0, locals := 81 } : Room) (va_Pc [.ref (u r0), .int x1] (cw_pre D q vl u z)) (va_Qv (fun (_ : Unit) => True) (fun _ t => va_P D vwCl (uw (cX vl) q u z1) t.heap) (tw_A (cX vl) u)) 0 0 (tw_A (cX vl) u) := by
  refine Met.ofW (cc := cX5_putBehind) (maxL := 4) (ret := none) (by decide) rfl ?_
  intro p e s m args below meth c s₁ B hml hv
  obtain ⟨rfl, hP, hK⟩ := hv
  have hx := B.exec
  have hb := B.bytes
  have hr := B.returns
  have hts := atoms_spec (ws := wc_X5_putBehind) B.pre
  have hT : ∀ w ∈ wC, w.before ([.ref (u r0), .int x1] : List Value).toArray s = true := fun w h => hts w (List.mem_cons_of_mem _ h)
  have hown : s.vm.findClass RX5 = some m.cls := findClass_of_methodNamed B.named
  have hlocks := B.notSynchronized
  have hU : uw_inj (cX vl) u (tw_A (cX vl) u) := ⟨hU0, fun h hh => ⟨h, hh, rfl⟩⟩
  have hM : uw_M D vwCl (cX vl) q (tw_A (cX vl) u) s.heap u z s.heap [] := ⟨hP, va_S.rf⟩
  have hl := lv_entry ([.ref (u r0), .int x1]) (n := 4) (Nat.le_of_ble_eq_true rfl)
  rw [lg_entry_eq]
  generalize (lg_sl ([.ref (u r0), .int x1]) ++ List.replicate (4 - (lg_sl ([.ref (u r0), .int x1])).length) Slot.unset).toArray = ls at hl ⊢
  have hl : lv_has ls 4 [(0, .ref (u r0)), (1, .int x1)] := hl
  refine ow_named (fun QQ hQQ => ?_)
  generalize ([.ref (u r0), .int x1] : List Value).toArray = args at hts hT hQQ ⊢
  have key : ∀ k : Nat, (∀ (x1 : Int32) (x2 : Int32) (x3 : Int32) (r0 : Nat) (z : ow_MS) (H : Heap) (locs : List Loc) (ls : Array Slot), cw_X5 r0 → uw_M D vwCl (cX vl) q (tw_A (cX vl) u) s.heap u z H locs → lv_has ls 4 [(0, .ref (u r0)), (1, .int x1)] → c_X5_putBehind vl K k 0 x1 x2 x3 r0 z = some z1 → W p l e ({ frames := 3, cells := 0, slots := 0, locals := 81 } : Room) s m args below meth c H locs 0 0 QQ (F0 m 0 ls [])) ∧ (∀ (x1 : Int32) (x2 : Int32) (x3 : Int32) (r0 : Nat) (z : ow_MS) (H : Heap) (locs : List Loc) (ls : Array Slot), cw_X5 r0 → uw_M D vwCl (cX vl) q (tw_A (cX vl) u) s.heap u z H locs → lv_has ls 4 [(0, .ref (u r0)), (1, .int x1), (2, .int x2), (3, .int x3)] → c_X5_putBehind vl K k 1 x1 x2 x3 r0 z = some z1 → W p l e ({ frames := 3, cells := 0, slots := 0, locals := 81 } : Room) s m args below meth c H locs 0 0 QQ (F0 m 39 ls [])) ∧ (∀ (x1 : Int32) (x2 : Int32) (x3 : Int32) (r0 : Nat) (z : ow_MS) (H : Heap) (locs : List Loc) (ls : Array Slot), cw_X5 r0 → uw_M D vwCl (cX vl) q (tw_A (cX vl) u) s.heap u z H locs → lv_has ls 4 [(0, .ref (u r0)), (1, .int x1), (2, .int x2), (3, .int x3)] → c_X5_putBehind vl K k 2 x1 x2 x3 r0 z = some z1 → W p l e ({ frames := 3, cells := 0, slots := 0, locals := 81 } : Room) s m args below meth c H locs 0 0 QQ (F0 m 59 ls [])) := by
    intro k
    induction k with
    | zero => exact ⟨fun _ _ _ _ _ _ _ _ _ _ _ hq => cw_no hq, fun _ _ _ _ _ _ _ _ _ _ _ hq => cw_no hq, fun _ _ _ _ _ _ _ _ _ _ _ hq => cw_no hq⟩
    | succ k ih =>
      obtain ⟨ih_0, ih_1, ih_2⟩ := ih
      refine ⟨?_, ?_, ?_⟩
      · intro x1 x2 x3 r0 z H locs ls hr0 hM hl hq
        have hq : cm_X5_putBehind_0 vl K (c_X5_putBehind vl K k) x1 x2 x3 r0 z = some z1 := hq
        unfold cm_X5_putBehind_0 at hq
        refine lv_aload_n hx hb dcX5_putBehind_0 rfl (lv_at hl 0 rfl) ?_
        refine vgX5_32 hx hb hT hown hK hM hr0 hq dcX5_putBehind_1 (fun v1 hq => ?_)
        refine lv_bipush (v := 24) hx hb dcX5_putBehind_4 (by decide) ?_
        refine lv_icmp_lt (tgt := 10) hx hb dcX5_putBehind_6 (by decide) (fun hc => ?_) (fun hc => ?_)
        · have hq := tw_it hq hc
          refine lv_aload_n hx hb dcX5_putBehind_10 rfl (lv_at hl 0 rfl) ?_
          refine vgX5_11 hx hb hT hown hK hM hr0 dcX5_putBehind_11 ?_
          refine lv_aload_n hx hb dcX5_putBehind_14 rfl (lv_at hl 0 rfl) ?_
          refine vgX5_32 hx hb hT hown hK hM hr0 hq dcX5_putBehind_15 (fun v2 hq => ?_)
          refine lv_iload_n hx hb dcX5_putBehind_18 rfl (lv_at hl 1 rfl) ?_
          refine uw_iast cX_ok hU hx hb hK hM (cr_X5_3 hr0) hq dcX5_putBehind_19 (fun z3 H locs hM hq => ?_)
          refine lv_aload_n hx hb dcX5_putBehind_20 rfl (lv_at hl 0 rfl) ?_
          refine lv_dup hx hb dcX5_putBehind_21 rfl ?_
          refine vgX5_32 hx hb hT hown hK hM hr0 hq dcX5_putBehind_22 (fun v4 hq => ?_)
          refine lv_iconst (v := 1) hx hb dcX5_putBehind_25 (by decide) ?_
          refine lv_iadd hx hb dcX5_putBehind_26 ?_
          refine vpX5_32 hx hb hT hown hK hM hU hr0 hq dcX5_putBehind_27 (fun z5 H locs hM hq => ?_)
          refine lv_iconst (v := 1) hx hb dcX5_putBehind_30 (by decide) ?_
          refine lv_istore_n (lv' := [(2, .int 1), (0, .ref (u r0)), (1, .int x1)]) hx hb dcX5_putBehind_31 rfl hl (by decide) rfl (fun ls hl => ?_)
          refine lv_aload_n hx hb dcX5_putBehind_32 rfl (lv_at hl 1 rfl) ?_
          refine vgX5_32 hx hb hT hown hK hM hr0 hq dcX5_putBehind_33 (fun v6 hq => ?_)
          refine lv_iconst (v := 2) hx hb dcX5_putBehind_36 (by decide) ?_
          refine lv_isub hx hb dcX5_putBehind_37 ?_
          refine lv_istore_n (lv' := [(3, .int (v6 - 2)), (2, .int 1), (0, .ref (u r0)), (1, .int x1)]) hx hb dcX5_putBehind_38 rfl hl (by decide) rfl (fun ls hl => ?_)
          exact ih_1 x1 1 (v6 - 2) r0 z5 H locs ls hr0 hM (lv_sub hl [2, 3, 1, 0] rfl) hq
        · have hq := tw_if hq hc
          exact cw_vret hx hb hr hlocks hM hq hQQ dcX5_putBehind_9
      · intro x1 x2 x3 r0 z H locs ls hr0 hM hl hq
        have hq : cm_X5_putBehind_1 vl K (c_X5_putBehind vl K k) x1 x2 x3 r0 z = some z1 := hq
        unfold cm_X5_putBehind_1 at hq
        refine lv_iload_n hx hb dcX5_putBehind_39 rfl (lv_at hl 3 rfl) ?_
        refine lv_if_lt (tgt := 59) hx hb dcX5_putBehind_40 (by decide) (fun hc => ?_) (fun hc => ?_)
        · have hq := tw_it hq hc
          exact ih_2 x1 x2 x3 r0 z H locs ls hr0 hM (lv_sub hl [0, 1, 2, 3] rfl) hq
        · have hq := tw_if hq hc
          refine lv_iload_n hx hb dcX5_putBehind_43 rfl (lv_at hl 2 rfl) ?_
          refine lv_if_eq (tgt := 59) hx hb dcX5_putBehind_44 (by decide) (fun hc => ?_) (fun hc => ?_)
          · have hq := tw_it hq hc
            exact ih_2 x1 x2 x3 r0 z H locs ls hr0 hM (lv_sub hl [0, 1, 2, 3] rfl) hq
          · have hq := tw_if hq hc
            refine lv_aload_n hx hb dcX5_putBehind_47 rfl (lv_at hl 0 rfl) ?_
            refine lv_iload_n hx hb dcX5_putBehind_48 rfl (lv_at hl 3 rfl) ?_
            obtain ⟨v8, z7, hcq, hq⟩ := tw_cl1 hq
            refine uw_cali hU hM (va_runV (As := [.int x3]) (rest := []) ⟨hx, hb, hml, hown, hts⟩ (kc_X5_weigh l D q vl u hU.1 K r0 x3 hr0 z z7 v8 hcq) (cwV 1 hts (tw_gV wC_good xq_438 xq_439 xq_440 xq_403 xq_441) rfl rfl rfl cdd_X5_weigh ⟨(Nat.le_of_ble_eq_true rfl), (Nat.le_of_ble_eq_true rfl)⟩) (cw_preV hK hM (co_X5 hr0) rfl) rfl rfl hl.1 rfl (lv_room (Nat.le_of_ble_eq_true rfl)) dcX5_putBehind_49 ⟨(Nat.le_of_ble_eq_true rfl), (Nat.le_of_ble_eq_true rfl)⟩) (fun H locs hM => ?_)
            refine lv_istore_n (lv' := [(2, .int v8), (0, .ref (u r0)), (1, .int x1), (3, .int x3)]) hx hb dcX5_putBehind_52 rfl hl (by decide) rfl (fun ls hl => ?_)
            refine lv_iinc (v := (x3 + (-1))) (lv' := [(3, .int (x3 + (-1))), (2, .int v8), (0, .ref (u r0)), (1, .int x1)]) hx hb dcX5_putBehind_53 hl (k := 3) rfl rfl (by decide) rfl (fun ls hl => ?_)
            refine lv_goto (tgt := 39) hx hb dcX5_putBehind_56 (by decide) ?_
            exact ih_1 x1 v8 (x3 + (-1)) r0 z7 H locs ls hr0 hM (lv_sub hl [2, 3, 1, 0] rfl) hq
      · intro x1 x2 x3 r0 z H locs ls hr0 hM hl hq
        have hq : cm_X5_putBehind_2 vl K (c_X5_putBehind vl K k) x1 x2 x3 r0 z = some z1 := hq
        unfold cm_X5_putBehind_2 at hq
        refine lv_aload_n hx hb dcX5_putBehind_59 rfl (lv_at hl 0 rfl) ?_
        obtain ⟨z9, hcq, hq⟩ := tw_cl0 hq
        refine uw_calv hU hM (va_runV (As := []) (rest := []) ⟨hx, hb, hml, hown, hts⟩ (kc_X5_strip l D q vl u hU.1 K r0 hr0 z z9 hcq) (cwV 0 hts (tw_gV wC_good xq_446 xq_447 xq_448 xq_403 xq_449) rfl rfl rfl cdd_X5_strip ⟨(Nat.le_of_ble_eq_true rfl), (Nat.le_of_ble_eq_true rfl)⟩) (cw_preV hK hM (co_X5 hr0) rfl) rfl rfl hl.1 rfl (lv_room (Nat.le_of_ble_eq_true rfl)) dcX5_putBehind_60 ⟨(Nat.le_of_ble_eq_true rfl), (Nat.le_of_ble_eq_true rfl)⟩) (fun H locs hM => ?_)
        exact cw_vret hx hb hr hlocks hM hq hQQ dcX5_putBehind_63
  exact (key K).1 x1 0 0 r0 z s.heap [] ls hr0 hM (lv_sub hl [0, 1] rfl) hq
theorem dcX5_takeLetter_0 : decode cX5_takeLetter 0 = .ok (.iload_n 1, 1) := dw_at cX5_takeLetter_k0 (p := 0) rfl (by decide +kernel)
theorem dcX5_takeLetter_1 : decode cX5_takeLetter 1 = .ok (.invokestatic 58, 3) := dw_at cX5_takeLetter_k0 (p := 1) rfl (by decide +kernel)
theorem dcX5_takeLetter_4 : decode cX5_takeLetter 4 = .ok (.iconst 1, 1) := dw_at cX5_takeLetter_k0 (p := 4) rfl (by decide +kernel)
theorem dcX5_takeLetter_5 : decode cX5_takeLetter 5 = .ok (.isub, 1) := dw_at cX5_takeLetter_k0 (p := 5) rfl (by decide +kernel)
theorem dcX5_takeLetter_6 : decode cX5_takeLetter 6 = .ok (.istore_n 2, 1) := dw_at cX5_takeLetter_k0 (p := 6) rfl (by decide +kernel)
theorem dcX5_takeLetter_7 : decode cX5_takeLetter 7 = .ok (.iload_n 1, 1) := dw_at cX5_takeLetter_k0 (p := 7) rfl (by decide +kernel)
theorem dcX5_takeLetter_8 : decode cX5_takeLetter 8 = .ok (.ifCond .le 16, 3) := dw_at cX5_takeLetter_k0 (p := 8) rfl (by decide +kernel)
theorem dcX5_takeLetter_11 : decode cX5_takeLetter 11 = .ok (.aload_n 0, 1) := dw_at cX5_takeLetter_k0 (p := 11) rfl (by decide +kernel)
theorem dcX5_takeLetter_12 : decode cX5_takeLetter 12 = .ok (.aload_n 0, 1) := dw_at cX5_takeLetter_k0 (p := 12) rfl (by decide +kernel)
theorem dcX5_takeLetter_13 : decode cX5_takeLetter 13 = .ok (.getfield 39, 3) := dw_at cX5_takeLetter_k0 (p := 13) rfl (by decide +kernel)
theorem dcX5_takeLetter_16 : decode cX5_takeLetter 16 = .ok (.iload_n 2, 1) := dw_at cX5_takeLetter_k0 (p := 16) rfl (by decide +kernel)
theorem dcX5_takeLetter_17 : decode cX5_takeLetter 17 = .ok (.invokestatic 22, 3) := dw_at cX5_takeLetter_k0 (p := 17) rfl (by decide +kernel)
theorem dcX5_takeLetter_20 : decode cX5_takeLetter 20 = .ok (.invokevirtual 63, 3) := dw_at cX5_takeLetter_k0 (p := 20) rfl (by decide +kernel)
theorem dcX5_takeLetter_23 : decode cX5_takeLetter 23 = .ok (.return_, 1) := dw_at cX5_takeLetter_k0 (p := 23) rfl (by decide +kernel)
theorem dcX5_takeLetter_24 : decode cX5_takeLetter 24 = .ok (.iconst 0, 1) := dw_at cX5_takeLetter_k1 (p := 0) rfl (by decide +kernel)
theorem dcX5_takeLetter_25 : decode cX5_takeLetter 25 = .ok (.istore_n 3, 1) := dw_at cX5_takeLetter_k1 (p := 1) rfl (by decide +kernel)
theorem dcX5_takeLetter_26 : decode cX5_takeLetter 26 = .ok (.iload_n 3, 1) := dw_at cX5_takeLetter_k1 (p := 2) rfl (by decide +kernel)
theorem dcX5_takeLetter_27 : decode cX5_takeLetter 27 = .ok (.aload_n 0, 1) := dw_at cX5_takeLetter_k1 (p := 3) rfl (by decide +kernel)
theorem dcX5_takeLetter_28 : decode cX5_takeLetter 28 = .ok (.getfield 32, 3) := dw_at cX5_takeLetter_k1 (p := 4) rfl (by decide +kernel)
theorem dcX5_takeLetter_31 : decode cX5_takeLetter 31 = .ok (.if_icmp .ge 28, 3) := dw_at cX5_takeLetter_k1 (p := 7) rfl (by decide +kernel)
theorem dcX5_takeLetter_34 : decode cX5_takeLetter 34 = .ok (.aload_n 0, 1) := dw_at cX5_takeLetter_k1 (p := 10) rfl (by decide +kernel)
theorem dcX5_takeLetter_35 : decode cX5_takeLetter 35 = .ok (.getfield 11, 3) := dw_at cX5_takeLetter_k1 (p := 11) rfl (by decide +kernel)
theorem dcX5_takeLetter_38 : decode cX5_takeLetter 38 = .ok (.iload_n 3, 1) := dw_at cX5_takeLetter_k1 (p := 14) rfl (by decide +kernel)
theorem dcX5_takeLetter_39 : decode cX5_takeLetter 39 = .ok (.aload_n 0, 1) := dw_at cX5_takeLetter_k1 (p := 15) rfl (by decide +kernel)
theorem dcX5_takeLetter_40 : decode cX5_takeLetter 40 = .ok (.getfield 11, 3) := dw_at cX5_takeLetter_k1 (p := 16) rfl (by decide +kernel)
theorem dcX5_takeLetter_43 : decode cX5_takeLetter 43 = .ok (.iload_n 3, 1) := dw_at cX5_takeLetter_k1 (p := 19) rfl (by decide +kernel)
theorem dcX5_takeLetter_44 : decode cX5_takeLetter 44 = .ok (.iaload, 1) := dw_at cX5_takeLetter_k1 (p := 20) rfl (by decide +kernel)
theorem dcX5_takeLetter_45 : decode cX5_takeLetter 45 = .ok (.aload_n 0, 1) := dw_at cX5_takeLetter_k1 (p := 21) rfl (by decide +kernel)
theorem dcX5_takeLetter_46 : decode cX5_takeLetter 46 = .ok (.getfield 25, 3) := dw_at cX5_takeLetter_k1 (p := 22) rfl (by decide +kernel)
theorem dcX5_takeLetter_49 : decode cX5_takeLetter 49 = .ok (.invokestatic 66, 3) := dw_at cX5_takeLetter_k2 (p := 0) rfl (by decide +kernel)
theorem dcX5_takeLetter_52 : decode cX5_takeLetter 52 = .ok (.iastore, 1) := dw_at cX5_takeLetter_k2 (p := 3) rfl (by decide +kernel)
theorem dcX5_takeLetter_53 : decode cX5_takeLetter 53 = .ok (.iinc 3 1, 3) := dw_at cX5_takeLetter_k2 (p := 4) rfl (by decide +kernel)
theorem dcX5_takeLetter_56 : decode cX5_takeLetter 56 = .ok (.goto (-30), 3) := dw_at cX5_takeLetter_k2 (p := 7) rfl (by decide +kernel)
theorem dcX5_takeLetter_59 : decode cX5_takeLetter 59 = .ok (.aload_n 0, 1) := dw_at cX5_takeLetter_k2 (p := 10) rfl (by decide +kernel)
theorem dcX5_takeLetter_60 : decode cX5_takeLetter 60 = .ok (.dup, 1) := dw_at cX5_takeLetter_k2 (p := 11) rfl (by decide +kernel)
theorem dcX5_takeLetter_61 : decode cX5_takeLetter 61 = .ok (.getfield 29, 3) := dw_at cX5_takeLetter_k2 (p := 12) rfl (by decide +kernel)
theorem dcX5_takeLetter_64 : decode cX5_takeLetter 64 = .ok (.iconst 1, 1) := dw_at cX5_takeLetter_k2 (p := 15) rfl (by decide +kernel)
theorem dcX5_takeLetter_65 : decode cX5_takeLetter 65 = .ok (.isub, 1) := dw_at cX5_takeLetter_k2 (p := 16) rfl (by decide +kernel)
theorem dcX5_takeLetter_66 : decode cX5_takeLetter 66 = .ok (.putfield 29, 3) := dw_at cX5_takeLetter_k2 (p := 17) rfl (by decide +kernel)
theorem dcX5_takeLetter_69 : decode cX5_takeLetter 69 = .ok (.aload_n 0, 1) := dw_at cX5_takeLetter_k2 (p := 20) rfl (by decide +kernel)
theorem dcX5_takeLetter_70 : decode cX5_takeLetter 70 = .ok (.aload_n 0, 1) := dw_at cX5_takeLetter_k2 (p := 21) rfl (by decide +kernel)
theorem dcX5_takeLetter_71 : decode cX5_takeLetter 71 = .ok (.getfield 45, 3) := dw_at cX5_takeLetter_k2 (p := 22) rfl (by decide +kernel)
theorem dcX5_takeLetter_74 : decode cX5_takeLetter 74 = .ok (.iload_n 2, 1) := dw_at cX5_takeLetter_k3 (p := 0) rfl (by decide +kernel)
theorem dcX5_takeLetter_75 : decode cX5_takeLetter 75 = .ok (.aload_n 0, 1) := dw_at cX5_takeLetter_k3 (p := 1) rfl (by decide +kernel)
theorem dcX5_takeLetter_76 : decode cX5_takeLetter 76 = .ok (.getfield 25, 3) := dw_at cX5_takeLetter_k3 (p := 2) rfl (by decide +kernel)
theorem dcX5_takeLetter_79 : decode cX5_takeLetter 79 = .ok (.invokestatic 69, 3) := dw_at cX5_takeLetter_k3 (p := 5) rfl (by decide +kernel)
theorem dcX5_takeLetter_82 : decode cX5_takeLetter 82 = .ok (.invokevirtual 63, 3) := dw_at cX5_takeLetter_k3 (p := 8) rfl (by decide +kernel)
theorem dcX5_takeLetter_85 : decode cX5_takeLetter 85 = .ok (.return_, 1) := dw_at cX5_takeLetter_k3 (p := 11) rfl (by decide +kernel)
def cm_X5_takeLetter_0 (vl : Nat → Nat) (K : Nat) (go : Nat → Int32 → Int32 → Int32 → Nat → ow_MS → Option ow_MS) (x1 : Int32) (x2 : Int32) (x3 : Int32) (r0 : Nat) (z : ow_MS) : Option ow_MS :=
 (if x1 ≤ 0 then go 1 x1 ((if 0 ≤ x1 then x1 else 0 - x1) - 1) 0 r0 z
 else rdF z (r0 + 5) fun v1 => cs1 (ce_X5_exchanged vl K v1 ((if 0 ≤ x1 then x1 else 0 - x1) - 1) z) fun v3 z2 => cs0 (ce_X5_putBehind vl K r0 v3 z2) fun z4 => some z4)
def cm_X5_takeLetter_1 (vl : Nat → Nat) (K : Nat) (go : Nat → Int32 → Int32 → Int32 → Nat → ow_MS → Option ow_MS) (x1 : Int32) (x2 : Int32) (x3 : Int32) (r0 : Nat) (z : ow_MS) : Option ow_MS :=
 rdF z (r0 + 3) fun v5 => (if v5 ≤ x3 then rdF z (r0 + 2) fun v6 => wrF z (r0 + 2) (v6 - 1) fun z7 => rdF z7 (r0 + 6) fun v8 => rdF z7 (r0 + 1) fun v9 => cs1 (ce_X5_exchangedBehind vl K v8 x2 v9 z7) fun v11 z10 => cs0 (ce_X5_putBehind vl K r0 v11 z10) fun z12 => some z12
 else crI (cX vl) z (r0 + 4) x3 fun v13 => rdF z (r0 + 1) fun v14 => cs1 (ce_X5_turned vl K v13 v14 z) fun v16 z15 => ctI (cX vl) z15 (r0 + 4) x3 v16 fun z17 => go 1 x1 x2 (x3 + 1) r0 z17)
def cb_X5_takeLetter (vl : Nat → Nat) (K : Nat) (go : Nat → Int32 → Int32 → Int32 → Nat → ow_MS → Option ow_MS) (L : Nat) (x1 : Int32) (x2 : Int32) (x3 : Int32) (r0 : Nat) (z : ow_MS) : Option ow_MS := match L with
  | 0 => cm_X5_takeLetter_0 vl K go x1 x2 x3 r0 z
  | 1 => cm_X5_takeLetter_1 vl K go x1 x2 x3 r0 z
  | _ => none
def c_X5_takeLetter (vl : Nat → Nat) (K : Nat) : Nat → Nat → Int32 → Int32 → Int32 → Nat → ow_MS → Option ow_MS
  | 0 => fun _ _ _ _ _ _ => none
  | k + 1 => cb_X5_takeLetter vl K (c_X5_takeLetter vl K k)
def ce_X5_takeLetter (vl : Nat → Nat) (K : Nat) (r0 : Nat) (x1 : Int32) (z : ow_MS) : Option ow_MS := c_X5_takeLetter vl K K 0 x1 0 0 r0 z
abbrev wc_X5_takeLetter : List Cond := .code yX5_takeLetter cX5_takeLetter 4 none :: wC
theorem cdd_X5_takeLetter : yX5_takeLetter.cls = RX5 ∧ yX5_takeLetter.cls ≠ "java/lang/invoke/MethodHandle" ∧ yX5_takeLetter.cls ≠ "java/lang/invoke/VarHandle" ∧ (parseMethodDescriptor yX5_takeLetter.desc).map (fun d => d.parameters.length) = some 1 := by decide +kernel
set_option maxHeartbeats 4000000 in
set_option maxRecDepth 100000 in
theorem kc_X5_takeLetter (l : Launch) (D : va_G) (q : Nat → ClassId) (vl u : Nat → Nat) (hU0 : tw_inj (cX vl) u) (K : Nat) (r0 : Nat) (x1 : Int32) (hr0 : cw_X5 r0) (z z1 : ow_MS) (hq : ce_X5_takeLetter vl K r0 x1 z = some z1) : Met l yX5_takeLetter wc_X5_takeLetter ({ frames := 4, cells := 0, slots := 0, locals := 104 } : Room) (va_Pc [.ref (u r0), .int x1] (cw_pre D q vl u z)) (va_Qv (fun (_ : Unit) => True) (fun _ t => va_P D vwCl (uw (cX vl) q u z1) t.heap) (tw_A (cX vl) u)) 0 0 (tw_A (cX vl) u) := by
  refine Met.ofW (cc := cX5_takeLetter) (maxL := 4) (ret := none) (by decide) rfl ?_
  intro p e s m args below meth c s₁ B hml hv
  obtain ⟨rfl, hP, hK⟩ := hv
  have hx := B.exec
  have hb := B.bytes
  have hr := B.returns
  have hts := atoms_spec (ws := wc_X5_takeLetter) B.pre
  have hT : ∀ w ∈ wC, w.before ([.ref (u r0), .int x1] : List Value).toArray s = true := fun w h => hts w (List.mem_cons_of_mem _ h)
  have hown : s.vm.findClass RX5 = some m.cls := findClass_of_methodNamed B.named
  have hlocks := B.notSynchronized
  have hU : uw_inj (cX vl) u (tw_A (cX vl) u) := ⟨hU0, fun h hh => ⟨h, hh, rfl⟩⟩
  have hM : uw_M D vwCl (cX vl) q (tw_A (cX vl) u) s.heap u z s.heap [] := ⟨hP, va_S.rf⟩
  have hl := lv_entry ([.ref (u r0), .int x1]) (n := 4) (Nat.le_of_ble_eq_true rfl)
  rw [lg_entry_eq]
  generalize (lg_sl ([.ref (u r0), .int x1]) ++ List.replicate (4 - (lg_sl ([.ref (u r0), .int x1])).length) Slot.unset).toArray = ls at hl ⊢
  have hl : lv_has ls 4 [(0, .ref (u r0)), (1, .int x1)] := hl
  refine ow_named (fun QQ hQQ => ?_)
  generalize ([.ref (u r0), .int x1] : List Value).toArray = args at hts hT hQQ ⊢
  have key : ∀ k : Nat, (∀ (x1 : Int32) (x2 : Int32) (x3 : Int32) (r0 : Nat) (z : ow_MS) (H : Heap) (locs : List Loc) (ls : Array Slot), cw_X5 r0 → uw_M D vwCl (cX vl) q (tw_A (cX vl) u) s.heap u z H locs → lv_has ls 4 [(0, .ref (u r0)), (1, .int x1)] → c_X5_takeLetter vl K k 0 x1 x2 x3 r0 z = some z1 → W p l e ({ frames := 4, cells := 0, slots := 0, locals := 104 } : Room) s m args below meth c H locs 0 0 QQ (F0 m 0 ls [])) ∧ (∀ (x1 : Int32) (x2 : Int32) (x3 : Int32) (r0 : Nat) (z : ow_MS) (H : Heap) (locs : List Loc) (ls : Array Slot), cw_X5 r0 → uw_M D vwCl (cX vl) q (tw_A (cX vl) u) s.heap u z H locs → lv_has ls 4 [(0, .ref (u r0)), (1, .int x1), (2, .int x2), (3, .int x3)] → c_X5_takeLetter vl K k 1 x1 x2 x3 r0 z = some z1 → W p l e ({ frames := 4, cells := 0, slots := 0, locals := 104 } : Room) s m args below meth c H locs 0 0 QQ (F0 m 26 ls [])) := by
    intro k
    induction k with
    | zero => exact ⟨fun _ _ _ _ _ _ _ _ _ _ _ hq => cw_no hq, fun _ _ _ _ _ _ _ _ _ _ _ hq => cw_no hq⟩
    | succ k ih =>
      obtain ⟨ih_0, ih_1⟩ := ih
      refine ⟨?_, ?_⟩
      · intro x1 x2 x3 r0 z H locs ls hr0 hM hl hq
        have hq : cm_X5_takeLetter_0 vl K (c_X5_takeLetter vl K k) x1 x2 x3 r0 z = some z1 := hq
        unfold cm_X5_takeLetter_0 at hq
        refine lv_iload_n hx hb dcX5_takeLetter_0 rfl (lv_at hl 1 rfl) ?_
        refine va_mabs hx hb (by rw [hml]; exact hl.1.symm) hown (hT _ xq_431) (hT _ xq_432) (hT _ xq_18) (hT _ xq_433) (Nat.le_of_ble_eq_true rfl) (Nat.le_of_ble_eq_true rfl) (Nat.le_of_ble_eq_true rfl) (Nat.le_of_ble_eq_true rfl) dcX5_takeLetter_1 ?_
        refine lv_iconst (v := 1) hx hb dcX5_takeLetter_4 (by decide) ?_
        refine lv_isub hx hb dcX5_takeLetter_5 ?_
        refine lv_istore_n (lv' := [(2, .int ((if 0 ≤ x1 then x1 else 0 - x1) - 1)), (0, .ref (u r0)), (1, .int x1)]) hx hb dcX5_takeLetter_6 rfl hl (by decide) rfl (fun ls hl => ?_)
        refine lv_iload_n hx hb dcX5_takeLetter_7 rfl (lv_at hl 2 rfl) ?_
        refine lv_if_le (tgt := 24) hx hb dcX5_takeLetter_8 (by decide) (fun hc => ?_) (fun hc => ?_)
        · have hq := tw_it hq hc
          refine lv_iconst (v := 0) hx hb dcX5_takeLetter_24 (by decide) ?_
          refine lv_istore_n (lv' := [(3, .int 0), (2, .int ((if 0 ≤ x1 then x1 else 0 - x1) - 1)), (0, .ref (u r0)), (1, .int x1)]) hx hb dcX5_takeLetter_25 rfl hl (by decide) rfl (fun ls hl => ?_)
          exact ih_1 x1 ((if 0 ≤ x1 then x1 else 0 - x1) - 1) 0 r0 z H locs ls hr0 hM (lv_sub hl [2, 3, 1, 0] rfl) hq
        · have hq := tw_if hq hc
          refine lv_aload_n hx hb dcX5_takeLetter_11 rfl (lv_at hl 1 rfl) ?_
          refine lv_aload_n hx hb dcX5_takeLetter_12 rfl (lv_at hl 1 rfl) ?_
          refine vgX5_39 hx hb hT hown hK hM hr0 hq dcX5_takeLetter_13 (fun v1 hq => ?_)
          refine lv_iload_n hx hb dcX5_takeLetter_16 rfl (lv_at hl 0 rfl) ?_
          obtain ⟨v3, z2, hcq, hq⟩ := tw_cl1 hq
          refine uw_cali hU hM (va_runS (As := [.int v1, .int ((if 0 ≤ x1 then x1 else 0 - x1) - 1)]) (rest := [.ref (u r0)]) ⟨hx, hb, hml, hown, hts⟩ (kc_X5_exchanged l D q vl u hU.1 K v1 ((if 0 ≤ x1 then x1 else 0 - x1) - 1) z z2 v3 hcq) (va_cwS 2 hts (tw_gS wC_good xq_411 xq_412 xq_403 xq_408) rfl rfl rfl cdd_X5_exchanged ⟨(Nat.le_of_ble_eq_true rfl), (Nat.le_of_ble_eq_true rfl)⟩) (cw_preS hK hM) rfl rfl hl.1 rfl (lv_room (Nat.le_of_ble_eq_true rfl)) dcX5_takeLetter_17 ⟨(Nat.le_of_ble_eq_true rfl), (Nat.le_of_ble_eq_true rfl)⟩) (fun H locs hM => ?_)
          obtain ⟨z4, hcq, hq⟩ := tw_cl0 hq
          refine uw_calv hU hM (va_runV (As := [.int v3]) (rest := []) ⟨hx, hb, hml, hown, hts⟩ (kc_X5_putBehind l D q vl u hU.1 K r0 v3 hr0 z2 z4 hcq) (cwV 1 hts (tw_gV wC_good xq_434 xq_435 xq_436 xq_403 xq_437) rfl rfl rfl cdd_X5_putBehind ⟨(Nat.le_of_ble_eq_true rfl), (Nat.le_of_ble_eq_true rfl)⟩) (cw_preV hK hM (co_X5 hr0) rfl) rfl rfl hl.1 rfl (lv_room (Nat.le_of_ble_eq_true rfl)) dcX5_takeLetter_20 ⟨(Nat.le_of_ble_eq_true rfl), (Nat.le_of_ble_eq_true rfl)⟩) (fun H locs hM => ?_)
          exact cw_vret hx hb hr hlocks hM hq hQQ dcX5_takeLetter_23
      · intro x1 x2 x3 r0 z H locs ls hr0 hM hl hq
        have hq : cm_X5_takeLetter_1 vl K (c_X5_takeLetter vl K k) x1 x2 x3 r0 z = some z1 := hq
        unfold cm_X5_takeLetter_1 at hq
        refine lv_iload_n hx hb dcX5_takeLetter_26 rfl (lv_at hl 3 rfl) ?_
        refine lv_aload_n hx hb dcX5_takeLetter_27 rfl (lv_at hl 0 rfl) ?_
        refine vgX5_32 hx hb hT hown hK hM hr0 hq dcX5_takeLetter_28 (fun v5 hq => ?_)
        refine lv_icmp_ge (tgt := 59) hx hb dcX5_takeLetter_31 (by decide) (fun hc => ?_) (fun hc => ?_)
        · have hq := tw_it hq hc
          refine lv_aload_n hx hb dcX5_takeLetter_59 rfl (lv_at hl 0 rfl) ?_
          refine lv_dup hx hb dcX5_takeLetter_60 rfl ?_
          refine vgX5_29 hx hb hT hown hK hM hr0 hq dcX5_takeLetter_61 (fun v6 hq => ?_)
          refine lv_iconst (v := 1) hx hb dcX5_takeLetter_64 (by decide) ?_
          refine lv_isub hx hb dcX5_takeLetter_65 ?_
          refine vpX5_29 hx hb hT hown hK hM hU hr0 hq dcX5_takeLetter_66 (fun z7 H locs hM hq => ?_)
          refine lv_aload_n hx hb dcX5_takeLetter_69 rfl (lv_at hl 0 rfl) ?_
          refine lv_aload_n hx hb dcX5_takeLetter_70 rfl (lv_at hl 0 rfl) ?_
          refine vgX5_45 hx hb hT hown hK hM hr0 hq dcX5_takeLetter_71 (fun v8 hq => ?_)
          refine lv_iload_n hx hb dcX5_takeLetter_74 rfl (lv_at hl 2 rfl) ?_
          refine lv_aload_n hx hb dcX5_takeLetter_75 rfl (lv_at hl 0 rfl) ?_
          refine vgX5_25 hx hb hT hown hK hM hr0 hq dcX5_takeLetter_76 (fun v9 hq => ?_)
          obtain ⟨v11, z10, hcq, hq⟩ := tw_cl1 hq
          refine uw_cali hU hM (va_runS (As := [.int v8, .int x2, .int v9]) (rest := [.ref (u r0)]) ⟨hx, hb, hml, hown, hts⟩ (kc_X5_exchangedBehind l D q vl u hU.1 K v8 x2 v9 z7 z10 v11 hcq) (va_cwS 3 hts (tw_gS wC_good xq_452 xq_453 xq_403 xq_413) rfl rfl rfl cdd_X5_exchangedBehind ⟨(Nat.le_of_ble_eq_true rfl), (Nat.le_of_ble_eq_true rfl)⟩) (cw_preS hK hM) rfl rfl hl.1 rfl (lv_room (Nat.le_of_ble_eq_true rfl)) dcX5_takeLetter_79 ⟨(Nat.le_of_ble_eq_true rfl), (Nat.le_of_ble_eq_true rfl)⟩) (fun H locs hM => ?_)
          obtain ⟨z12, hcq, hq⟩ := tw_cl0 hq
          refine uw_calv hU hM (va_runV (As := [.int v11]) (rest := []) ⟨hx, hb, hml, hown, hts⟩ (kc_X5_putBehind l D q vl u hU.1 K r0 v11 hr0 z10 z12 hcq) (cwV 1 hts (tw_gV wC_good xq_434 xq_435 xq_436 xq_403 xq_437) rfl rfl rfl cdd_X5_putBehind ⟨(Nat.le_of_ble_eq_true rfl), (Nat.le_of_ble_eq_true rfl)⟩) (cw_preV hK hM (co_X5 hr0) rfl) rfl rfl hl.1 rfl (lv_room (Nat.le_of_ble_eq_true rfl)) dcX5_takeLetter_82 ⟨(Nat.le_of_ble_eq_true rfl), (Nat.le_of_ble_eq_true rfl)⟩) (fun H locs hM => ?_)
          exact cw_vret hx hb hr hlocks hM hq hQQ dcX5_takeLetter_85
        · have hq := tw_if hq hc
          refine lv_aload_n hx hb dcX5_takeLetter_34 rfl (lv_at hl 0 rfl) ?_
          refine vgX5_11 hx hb hT hown hK hM hr0 dcX5_takeLetter_35 ?_
          refine lv_iload_n hx hb dcX5_takeLetter_38 rfl (lv_at hl 3 rfl) ?_
          refine lv_aload_n hx hb dcX5_takeLetter_39 rfl (lv_at hl 0 rfl) ?_
          refine vgX5_11 hx hb hT hown hK hM hr0 dcX5_takeLetter_40 ?_
          refine lv_iload_n hx hb dcX5_takeLetter_43 rfl (lv_at hl 3 rfl) ?_
          refine uw_iald cX_ok hx hb hK hM (cr_X5_3 hr0) hq dcX5_takeLetter_44 (fun v13 hq => ?_)
          refine lv_aload_n hx hb dcX5_takeLetter_45 rfl (lv_at hl 0 rfl) ?_
          refine vgX5_25 hx hb hT hown hK hM hr0 hq dcX5_takeLetter_46 (fun v14 hq => ?_)
          obtain ⟨v16, z15, hcq, hq⟩ := tw_cl1 hq
          refine uw_cali hU hM (va_runS (As := [.int v13, .int v14]) (rest := [.int x3, .ref (u (r0 + 4))]) ⟨hx, hb, hml, hown, hts⟩ (kc_X5_turned l D q vl u hU.1 K v13 v14 z z15 v16 hcq) (va_cwS 2 hts (tw_gS wC_good xq_450 xq_451 xq_403 xq_407) rfl rfl rfl cdd_X5_turned ⟨(Nat.le_of_ble_eq_true rfl), (Nat.le_of_ble_eq_true rfl)⟩) (cw_preS hK hM) rfl rfl hl.1 rfl (lv_room (Nat.le_of_ble_eq_true rfl)) dcX5_takeLetter_49 ⟨(Nat.le_of_ble_eq_true rfl), (Nat.le_of_ble_eq_true rfl)⟩) (fun H locs hM => ?_)
          refine uw_iast cX_ok hU hx hb hK hM (cr_X5_3 hr0) hq dcX5_takeLetter_52 (fun z17 H locs hM hq => ?_)
          refine lv_iinc (v := (x3 + 1)) (lv' := [(3, .int (x3 + 1)), (0, .ref (u r0)), (1, .int x1), (2, .int x2)]) hx hb dcX5_takeLetter_53 hl (k := 3) rfl rfl (by decide) rfl (fun ls hl => ?_)
          refine lv_goto (tgt := 26) hx hb dcX5_takeLetter_56 (by decide) ?_
          exact ih_1 x1 x2 (x3 + 1) r0 z17 H locs ls hr0 hM (lv_sub hl [1, 2, 3, 0] rfl) hq
  exact (key K).1 x1 0 0 r0 z s.heap [] ls hr0 hM (lv_sub hl [0, 1] rfl) hq
